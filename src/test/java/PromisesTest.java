import java.util.Arrays;

/** Each promise by itself: ordinary inputs, the edges that the document names, and wrong inputs. */
public final class PromisesTest {
    private static final int NONE = SpaceWalls.NONE;
    private static final int LEAST = Integer.MIN_VALUE;
    private static final int GREATEST = Integer.MAX_VALUE;
    private static final Due DUE = new Due("PromisesTest");

    private PromisesTest() { }

    public static void main(String[] args) {
        constant();
        newObject();
        wall();
        wallEdges();
        take();
        told();
        row();
        faces();
        face();
        width();
        bounded();
        boundedRooms();
        poly();
        without();
        on();
        walls();
        beside();
        way();
        step();
        far();
        left();
        count();
        DUE.end();
    }

    private static void constant() {
        DUE.is("NONE", SpaceWalls.NONE, -1);
    }

    private static void newObject() {
        int[][] numbersAndDue = {{1, 1}, {2, 2}, {3, 3}, {0, 1}, {-1, 1}, {LEAST, 1}, {4, 3}, {9, 3}, {GREATEST, 3}};
        for (int[] pair : numbersAndDue) {
            SpaceWalls space = new SpaceWalls(pair[0]);
            String of = "new SpaceWalls(" + pair[0] + ") ";
            DUE.is(of + "count 0", space.count(0), pair[1]);
            DUE.is(of + "count 1", space.count(1), 0);
            DUE.is(of + "count 2", space.count(2), 1);
            DUE.is(of + "count 3", space.count(3), 1);
            DUE.is(of + "count 4", space.count(4), 0);
            DUE.is(of + "told", space.told(0, 0), NONE);
        }
    }

    private static void wall() {
        SpaceWalls space = new SpaceWalls(3);
        DUE.is("first wall", space.wall(1, 2, 3, 4), 0);
        DUE.is("second wall", space.wall(1, 2, 3, 5), 1);
        DUE.is("the same", space.wall(1, 2, 3, 4), NONE);
        DUE.is("the same doubled", space.wall(2, 4, 6, 8), NONE);
        DUE.is("the same turned", space.wall(-3, -6, -9, -12), NONE);
        DUE.is("turned but for e", space.wall(-1, -2, -3, 4), 2);
        DUE.is("no normal", space.wall(0, 0, 0, 0), NONE);
        DUE.is("no normal, but e", space.wall(0, 0, 0, 7), NONE);
        DUE.is("walls", space.count(1), 3);
        for (int e = 1; e <= 5; e++) {
            DUE.is("wall " + (2 + e), space.wall(0, 0, 1, e), 2 + e);
        }
        DUE.is("ninth wall", space.wall(0, 1, 0, 9), NONE);
        DUE.is("walls", space.count(1), 8);
        DUE.is("a wall goes", space.take(3), true);
        DUE.is("eighth wall again", space.wall(0, 1, 0, 9), 7);

        SpaceWalls halves = new SpaceWalls(1);
        DUE.is("2 x = 1", halves.wall(2, 0, 0, 1), 0);
        DUE.is("-6 x = -3", halves.wall(-6, 0, 0, -3), NONE);
        DUE.is("3 x = 1", halves.wall(3, 0, 0, 1), 1);
        DUE.is("x = 0", halves.wall(1, 0, 0, 0), 2);
        DUE.is("-9 x = 0", halves.wall(-9, 0, 0, 0), NONE);

        SpaceWalls pairs = new SpaceWalls(3);
        DUE.is("x + y = 0", pairs.wall(1, 1, 0, 0), 0);
        DUE.is("x - y = 0", pairs.wall(1, -1, 0, 0), 1);
        DUE.is("x + y + z = 0", pairs.wall(1, 1, 1, 0), 2);
        DUE.is("z = 0", pairs.wall(0, 0, 1, 0), 3);
        DUE.is("y = 0", pairs.wall(0, 1, 0, 0), 4);
        DUE.is("y + z = 0", pairs.wall(0, 1, 1, 0), 5);
        DUE.is("2 y + 2 z = 1", pairs.wall(0, 2, 2, 1), 6);
        DUE.is("z = 1", pairs.wall(0, 0, 1, 1), 7);
    }

    private static void wallEdges() {
        int[][] fine = {{9, 0, 0, 99}, {-9, 0, 0, 98}, {0, 9, 0, -99}, {0, -9, 0, 5}, {0, 0, 9, 1}, {0, 0, -9, 99}};
        SpaceWalls space = new SpaceWalls(3);
        for (int i = 0; i < fine.length; i++) {
            DUE.is("edge " + i, space.wall(fine[i][0], fine[i][1], fine[i][2], fine[i][3]), i);
        }
        int[][] wrong = {{10, 0, 0, 0}, {-10, 0, 0, 0}, {0, 10, 0, 0}, {0, -10, 0, 0}, {0, 0, 10, 0},
            {0, 0, -10, 0}, {1, 1, 0, 100}, {1, 1, 0, -100}, {LEAST, 1, 1, 1}, {1, LEAST, 1, 1},
            {1, 1, LEAST, 1}, {1, 1, 1, LEAST}, {GREATEST, 1, 1, 1}, {1, GREATEST, 1, 1},
            {1, 1, GREATEST, 1}, {1, 1, 1, GREATEST}};
        for (int[] w : wrong) {
            DUE.is("wrong wall", space.wall(w[0], w[1], w[2], w[3]), NONE);
        }
        DUE.is("walls", space.count(1), 6);
        DUE.is("y in a space of 1", new SpaceWalls(1).wall(1, 1, 0, 0), NONE);
        DUE.is("z in a space of 1", new SpaceWalls(1).wall(1, 0, 1, 0), NONE);
        DUE.is("z in a space of 2", new SpaceWalls(2).wall(1, 1, 1, 0), NONE);
        DUE.is("y in a space of 2", new SpaceWalls(2).wall(0, 1, 0, 0), 0);
        DUE.is("z in a space of 3", new SpaceWalls(3).wall(0, 0, 1, 0), 0);
    }

    private static void take() {
        SpaceWalls space = Spaces.triangle();
        DUE.is("take 3", space.take(3), false);
        DUE.is("take -1", space.take(-1), false);
        DUE.is("take least", space.take(LEAST), false);
        DUE.is("take greatest", space.take(GREATEST), false);
        DUE.is("rooms", space.count(2), 7);
        DUE.is("take 1", space.take(1), true);
        DUE.is("walls", space.count(1), 2);
        DUE.is("wall 0 stays", space.told(0, 0), 1);
        DUE.is("wall 2 is 1", space.told(1, 3), 2);
        DUE.is("wall 2 is gone", space.told(2, 3), NONE);
        DUE.is("rooms", space.count(2), 4);
        DUE.is("it may come again", space.wall(0, 1, 0, 0), 2);
        DUE.is("triangle", space.boundedRooms(), 1);
        DUE.is("take last", space.take(2), true);
        DUE.is("take 0", space.take(0), true);
        DUE.is("take 0", space.take(0), true);
        DUE.is("take none", space.take(0), false);
        DUE.is("rooms", space.count(2), 1);
        DUE.is("faces", space.count(3), 1);
        DUE.is("rank", space.count(4), 0);
    }

    private static void told() {
        SpaceWalls space = new SpaceWalls(3);
        space.wall(-9, 8, -7, 66);
        space.wall(2, 4, 6, -8);
        int[][] due = {{-9, 8, -7, 66}, {2, 4, 6, -8}};
        for (int wall = 0; wall < 2; wall++) {
            for (int what = 0; what < 4; what++) {
                DUE.is("told " + wall + " " + what, space.told(wall, what), due[wall][what]);
            }
        }
        DUE.is("told 4", space.told(0, 4), NONE);
        DUE.is("told -1", space.told(0, -1), NONE);
        DUE.is("told least", space.told(0, LEAST), NONE);
        DUE.is("told greatest", space.told(0, GREATEST), NONE);
        DUE.is("told of 2", space.told(2, 0), NONE);
        DUE.is("told of -1", space.told(-1, 0), NONE);
        DUE.is("told of 8", space.told(8, 0), NONE);
        DUE.is("told of greatest", space.told(GREATEST, 0), NONE);
    }

    private static void row() {
        SpaceWalls space = Spaces.triangle();
        DUE.is("row below all", space.row(-1, -1, 0), 0);
        DUE.is("row above all", space.row(5, 5, 0), 26);
        DUE.is("row on two", space.row(0, 0, 0), 4);
        DUE.is("row on the third", space.row(1, 1, 0), 17);
        DUE.is("z does not matter", space.row(1, 1, GREATEST), 17);
        DUE.is("row at the edge", space.row(1000000, -1000000, 0), 2);
        DUE.is("x above", space.row(1000001, 0, 0), NONE);
        DUE.is("x below", space.row(-1000001, 0, 0), NONE);
        DUE.is("y above", space.row(0, 1000001, 0), NONE);
        DUE.is("y below", space.row(0, -1000001, 0), NONE);
        DUE.is("x least", space.row(LEAST, 0, 0), NONE);
        DUE.is("no walls", new SpaceWalls(3).row(3, 4, 5), 0);
        DUE.is("no walls, z above", new SpaceWalls(3).row(0, 0, 1000001), NONE);
        DUE.is("no walls, z below", new SpaceWalls(3).row(0, 0, LEAST), NONE);
        DUE.is("y, z do not matter", new SpaceWalls(1).row(0, LEAST, GREATEST), 0);
        SpaceWalls steep = new SpaceWalls(3);
        steep.wall(9, 9, 9, 99);
        steep.wall(-9, -9, -9, 98);
        DUE.is("far out", steep.row(1000000, 1000000, 1000000), 2);
        DUE.is("far out below", steep.row(-1000000, -1000000, -1000000), 6);
        DUE.is("on the wall", steep.row(1000000, -1000000, 11), 1);
    }

    private static void faces() {
        int[][] due = {{8, 36, 54, 27}, {0, 1, 6, 6}, {56, 196, 232, 93}};
        SpaceWalls[] spaces = {Spaces.cube(), Spaces.fan(), Spaces.general(3, 8)};
        for (int i = 0; i < 3; i++) {
            for (int width = 0; width < 4; width++) {
                DUE.is("faces of " + i + " " + width, spaces[i].faces(width), due[i][width]);
            }
        }
        DUE.is("faces 4", Spaces.cube().faces(4), NONE);
        DUE.is("faces -1", Spaces.cube().faces(-1), NONE);
        DUE.is("faces 3 of 2 numbers", Spaces.triangle().faces(3), NONE);
        DUE.is("faces 2 of 1 number", new SpaceWalls(1).faces(2), NONE);
        DUE.is("faces least", Spaces.cube().faces(LEAST), NONE);
        DUE.is("faces greatest", Spaces.cube().faces(GREATEST), NONE);
        DUE.is("faces 0 without walls", new SpaceWalls(2).faces(0), 0);
        DUE.is("faces 2 without walls", new SpaceWalls(2).faces(2), 1);
    }

    private static void face() {
        SpaceWalls space = Spaces.triangle();
        int[][] due = {{4, 14, 16}, edgesOfTriangle(space), {0, 2, 6, 8, 20, 24, 26}};
        for (int width = 0; width < 3; width++) {
            for (int i = 0; i < due[width].length; i++) {
                DUE.is("face " + width + " " + i, space.face(width, i), due[width][i]);
            }
            DUE.is("face behind the last", space.face(width, due[width].length), NONE);
            DUE.is("face -1", space.face(width, -1), NONE);
            DUE.is("face least", space.face(width, LEAST), NONE);
            DUE.is("face greatest", space.face(width, GREATEST), NONE);
        }
        DUE.is("width 3", space.face(3, 0), NONE);
        DUE.is("width -1", space.face(-1, 0), NONE);
        DUE.is("width least", space.face(LEAST, 0), NONE);
        DUE.is("no walls", new SpaceWalls(3).face(3, 0), 0);
        DUE.is("no walls, no corner", new SpaceWalls(3).face(0, 0), NONE);
        DUE.is("the fan's line", Spaces.fan().face(1, 0), 13);
    }

    /** One place on each edge, below, between and above the corners of its wall. */
    private static int[] edgesOfTriangle(SpaceWalls space) {
        int[][] places = {{0, -1}, {0, 1}, {0, 3}, {-1, 0}, {1, 0}, {3, 0}, {-1, 3}, {1, 1}, {3, -1}};
        int[] rows = new int[places.length];
        for (int i = 0; i < places.length; i++) {
            rows[i] = space.row(places[i][0], places[i][1], 0);
        }
        Arrays.sort(rows);
        return rows;
    }

    private static void width() {
        SpaceWalls space = Spaces.triangle();
        DUE.is("a corner", space.width(4), 0);
        DUE.is("an edge", space.width(17), 1);
        DUE.is("a room", space.width(8), 2);
        DUE.is("no place is on all three", space.width(13), NONE);
        DUE.is("no such room", space.width(18), NONE);
        DUE.is("-1", space.width(-1), NONE);
        DUE.is("27", space.width(27), NONE);
        DUE.is("6561", space.width(6561), NONE);
        DUE.is("greatest", space.width(GREATEST), NONE);
        DUE.is("least", space.width(LEAST), NONE);
        DUE.is("on three walls of rank 2", Spaces.fan().width(13), 1);
        DUE.is("no walls", new SpaceWalls(3).width(0), 3);
        DUE.is("no walls, row 1", new SpaceWalls(3).width(1), NONE);
        SpaceWalls full = Spaces.general(3, 8);
        full.take(0);
        DUE.is("no eighth wall", full.width(6560), NONE);
    }

    private static void bounded() {
        SpaceWalls space = Spaces.triangle();
        int[] open = {0, 2, 6, 20, 24, 26};
        DUE.is("the triangle", space.bounded(8), true);
        for (int room : open) {
            DUE.is("an open room", space.bounded(room), false);
        }
        DUE.is("a bounded edge is no room", space.bounded(space.row(1, 1, 0)), false);
        DUE.is("a corner is no room", space.bounded(4), false);
        DUE.is("no face", space.bounded(18), false);
        DUE.is("-1", space.bounded(-1), false);
        DUE.is("greatest", space.bounded(GREATEST), false);
        DUE.is("least", space.bounded(LEAST), false);
        DUE.is("no walls", new SpaceWalls(1).bounded(0), false);
        SpaceWalls slab = new SpaceWalls(2);
        slab.wall(1, 0, 0, 0);
        slab.wall(1, 0, 0, 1);
        DUE.is("between parallel walls", slab.bounded(2), false);
        SpaceWalls part = new SpaceWalls(1);
        part.wall(2, 0, 0, 0);
        part.wall(2, 0, 0, 1);
        DUE.is("between two places", part.bounded(2), true);
        SpaceWalls tube = Spaces.tube();
        DUE.is("a tube", tube.bounded(8), false);
        tube.wall(0, 0, 1, 0);
        DUE.is("a tube with one end", tube.bounded(8), false);
        tube.wall(0, 0, 1, 1);
        DUE.is("a tube with two ends", tube.bounded(8 + 54), true);
        DUE.is("behind an end", tube.bounded(8), false);
    }

    private static void boundedRooms() {
        DUE.is("triangle", Spaces.triangle().boundedRooms(), 1);
        DUE.is("cube", Spaces.cube().boundedRooms(), 1);
        DUE.is("fan", Spaces.fan().boundedRooms(), 0);
        DUE.is("tube", Spaces.tube().boundedRooms(), 0);
        DUE.is("general", Spaces.general(3, 8).boundedRooms(), 35);
        for (int numbers = 1; numbers <= 3; numbers++) {
            DUE.is("no walls", new SpaceWalls(numbers).boundedRooms(), 0);
        }
        SpaceWalls line = new SpaceWalls(1);
        for (int e = 0; e < 8; e++) {
            line.wall(1, 0, 0, 7 * e);
            DUE.is("places on a line", line.boundedRooms(), e);
        }
    }

    private static void sameFactors(String of, SpaceWalls space, int... due) {
        for (int i = 0; i < due.length; i++) {
            DUE.is(of + " poly " + i, space.poly(i), due[i]);
        }
        DUE.is(of + " next power", space.poly(due.length), 0);
        DUE.is(of + " power -1", space.poly(-1), 0);
        DUE.is(of + " least power", space.poly(LEAST), 0);
        DUE.is(of + " greatest power", space.poly(GREATEST), 0);
    }

    private static void poly() {
        sameFactors("triangle", Spaces.triangle(), 3, -3, 1);
        sameFactors("cube", Spaces.cube(), -8, 12, -6, 1);
        sameFactors("fan", Spaces.fan(), 0, 2, -3, 1);
        sameFactors("general", Spaces.general(3, 8), -56, 28, -8, 1);
        sameFactors("line", new SpaceWalls(1), 0, 1);
        sameFactors("no walls", new SpaceWalls(3), 0, 0, 0, 1);
    }

    private static void without() {
        SpaceWalls space = Spaces.fan();
        int[] due = {0, 1, -2, 1};
        for (int wall = 0; wall < 3; wall++) {
            for (int i = 0; i < 4; i++) {
                DUE.is("fan without " + wall + " " + i, space.without(wall, i), due[i]);
            }
            DUE.is("power 4", space.without(wall, 4), 0);
            DUE.is("power -1", space.without(wall, -1), 0);
            DUE.is("power least", space.without(wall, LEAST), 0);
        }
        DUE.is("wall 3", space.without(3, 3), 0);
        DUE.is("wall -1", space.without(-1, 3), 0);
        DUE.is("wall 32", space.without(32, 3), 0);
        DUE.is("wall least", space.without(LEAST, 3), 0);
        DUE.is("the walls are all there still", space.count(1), 3);
        SpaceWalls slab = new SpaceWalls(2);
        slab.wall(1, 0, 0, 0);
        slab.wall(1, 0, 0, 1);
        slab.wall(0, 1, 0, 1);
        DUE.is("without one of two parallels", slab.without(0, 0), 1);
        DUE.is("without the third", slab.without(2, 0), 0);
        DUE.is("without the third", slab.without(2, 1), -2);
        DUE.is("no walls", new SpaceWalls(2).without(0, 2), 0);
    }

    private static void on() {
        SpaceWalls space = Spaces.fan();
        int[] due = {0, -1, 1, 0, 0};
        for (int wall = 0; wall < 3; wall++) {
            for (int i = 0; i < due.length; i++) {
                DUE.is("on the fan's " + wall + " " + i, space.on(wall, i), due[i]);
            }
            DUE.is("power -1", space.on(wall, -1), 0);
            DUE.is("power greatest", space.on(wall, GREATEST), 0);
        }
        DUE.is("wall 3", space.on(3, 2), 0);
        DUE.is("wall -1", space.on(-1, 2), 0);
        DUE.is("wall 32", space.on(32, 2), 0);
        DUE.is("wall least", space.on(LEAST, 2), 0);
        DUE.is("parallels do not meet", Spaces.cube().on(0, 0), 4);
        DUE.is("parallels do not meet", Spaces.cube().on(0, 1), -4);
        DUE.is("cube", Spaces.cube().on(0, 2), 1);
        SpaceWalls line = new SpaceWalls(1);
        line.wall(1, 0, 0, 3);
        line.wall(1, 0, 0, 4);
        DUE.is("on a place", line.on(1, 0), 1);
        DUE.is("on a place", line.on(1, 1), 0);
        DUE.is("no walls", new SpaceWalls(2).on(0, 1), 0);
    }

    private static void walls() {
        SpaceWalls space = Spaces.triangle();
        int[][] due = {{0, 3}, {8, 7}, {26, 7}, {2, 7}, {6, 7}, {20, 6}, {24, 5}};
        for (int[] pair : due) {
            DUE.is("walls of " + pair[0], space.walls(pair[0]), pair[1]);
        }
        DUE.is("no such room", space.walls(18), NONE);
        DUE.is("an edge", space.walls(17), NONE);
        DUE.is("a corner", space.walls(4), NONE);
        DUE.is("-1", space.walls(-1), NONE);
        DUE.is("greatest", space.walls(GREATEST), NONE);
        DUE.is("least", space.walls(LEAST), NONE);
        DUE.is("no walls", new SpaceWalls(3).walls(0), 0);
        SpaceWalls line = new SpaceWalls(1);
        for (int e = 0; e < 8; e++) {
            line.wall(1, 0, 0, e);
        }
        DUE.is("the last part of a line", line.walls(6560), 128);
    }

    private static void beside() {
        SpaceWalls space = Spaces.triangle();
        DUE.is("8 at 0", space.beside(8, 0), 6);
        DUE.is("8 at 1", space.beside(8, 1), 2);
        DUE.is("8 at 2", space.beside(8, 2), 26);
        DUE.is("26 at 2", space.beside(26, 2), 8);
        DUE.is("20 at 0 is nothing", space.beside(20, 0), NONE);
        DUE.is("wall 3", space.beside(8, 3), NONE);
        DUE.is("wall -1", space.beside(8, -1), NONE);
        DUE.is("wall least", space.beside(8, LEAST), NONE);
        DUE.is("wall greatest", space.beside(8, GREATEST), NONE);
        DUE.is("from no room", space.beside(18, 0), NONE);
        DUE.is("from an edge", space.beside(17, 2), NONE);
        DUE.is("from an edge at another wall", space.beside(space.row(1, 0, 0), 0), NONE);
        DUE.is("from -1", space.beside(-1, 0), NONE);
        DUE.is("from greatest", space.beside(GREATEST, 0), NONE);
        DUE.is("no walls", new SpaceWalls(3).beside(0, 0), NONE);
    }

    private static void way() {
        SpaceWalls space = Spaces.triangle();
        DUE.is("way through one", space.way(8, 26), 1);
        DUE.is("way through two", space.way(8, 0), 2);
        DUE.is("way through all", space.way(0, 26), 3);
        DUE.is("way back", space.way(26, 0), 3);
        DUE.is("no way", space.way(8, 8), 0);
        DUE.is("from no room", space.way(18, 8), NONE);
        DUE.is("to no room", space.way(8, 18), NONE);
        DUE.is("no room at all", space.way(18, 18), NONE);
        DUE.is("from an edge", space.way(17, 8), NONE);
        DUE.is("to a corner", space.way(8, 4), NONE);
        DUE.is("from -1", space.way(-1, 8), NONE);
        DUE.is("to greatest", space.way(8, GREATEST), NONE);
        DUE.is("to least", space.way(8, LEAST), NONE);
        DUE.is("no walls", new SpaceWalls(3).way(0, 0), 0);
    }

    private static void step() {
        SpaceWalls space = Spaces.fan();
        DUE.is("wall 1 is none of room 0", space.walls(0), 5);
        DUE.is("through the least", space.step(0, 26), 0);
        DUE.is("back", space.step(26, 0), 0);
        SpaceWalls line = new SpaceWalls(1);
        line.wall(1, 0, 0, 5);
        line.wall(1, 0, 0, 3);
        line.wall(1, 0, 0, 1);
        DUE.is("not the least that parts", line.step(0, 26), 2);
        DUE.is("then the next", line.step(18, 26), 1);
        DUE.is("then the last", line.step(24, 26), 0);
        DUE.is("back", line.step(26, 0), 0);
        DUE.is("through one that parts", line.step(24, 0), 1);
        DUE.is("one room", line.step(24, 24), NONE);
        DUE.is("from no room", line.step(2, 0), NONE);
        DUE.is("to no room", line.step(0, 2), NONE);
        DUE.is("from a place", line.step(line.row(3, 0, 0), 0), NONE);
        DUE.is("to a place", line.step(0, line.row(3, 0, 0)), NONE);
        DUE.is("from -1", line.step(-1, 0), NONE);
        DUE.is("to greatest", line.step(0, GREATEST), NONE);
        DUE.is("to least", line.step(0, LEAST), NONE);
        DUE.is("no walls", new SpaceWalls(3).step(0, 0), NONE);
    }

    private static void far() {
        DUE.is("no walls", new SpaceWalls(2).far(), 0);
        DUE.is("triangle", Spaces.triangle().far(), 3);
        DUE.is("fan", Spaces.fan().far(), 3);
        DUE.is("cube", Spaces.cube().far(), 6);
        SpaceWalls space = Spaces.general(3, 8);
        DUE.is("general", space.far(), 8);
        space.take(7);
        DUE.is("general less one", space.far(), 7);
    }

    private static void left() {
        SpaceWalls space = Spaces.triangle();
        DUE.is("left 5", space.left(5), 13);
        DUE.is("left 2", space.left(2), 0);
        int[] none = {LEAST, -5, -2, -1, 0, 1, 4, 6, 8, 9, 10, 12, 14, 15, 16, 18, 20, 21, 22, 24, 25, 26, 27,
            28, 30, 32, 33, 37, 41, GREATEST};
        for (int p : none) {
            DUE.is("left " + p, space.left(p), NONE);
        }
        int[] primes = {2, 3, 5, 7, 11, 13, 17, 19, 23, 29, 31};
        for (int p : primes) {
            DUE.is("no walls", new SpaceWalls(1).left(p), p);
            DUE.is("no walls", new SpaceWalls(2).left(p), p * p);
            DUE.is("no walls", new SpaceWalls(3).left(p), p * p * p);
            DUE.is("fan", Spaces.fan().left(p), p * (p - 1) * (p - 2));
        }
        SpaceWalls threefold = new SpaceWalls(2);
        threefold.wall(3, -6, 0, 7);
        DUE.is("3 never divides", threefold.left(3), 9);
        DUE.is("5 divides on a line", threefold.left(5), 20);
        threefold.wall(3, -6, 0, -96);
        DUE.is("3 always divides", threefold.left(3), 0);
    }

    private static void count() {
        int[][] due = {{3, 6, 27, 125, 3}, {3, 3, 6, 13, 2}, {3, 8, 93, 577, 3}};
        SpaceWalls[] spaces = {Spaces.cube(), Spaces.fan(), Spaces.general(3, 8)};
        for (int i = 0; i < spaces.length; i++) {
            for (int what = 0; what < 5; what++) {
                DUE.is("count of " + i + " " + what, spaces[i].count(what), due[i][what]);
            }
            DUE.is("count 5", spaces[i].count(5), NONE);
            DUE.is("count -1", spaces[i].count(-1), NONE);
            DUE.is("count least", spaces[i].count(LEAST), NONE);
            DUE.is("count greatest", spaces[i].count(GREATEST), NONE);
        }
    }
}
