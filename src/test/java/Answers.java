/**
 * What an object answers to calls of every kind, as one text: two objects of one state give the same.
 * These are some 170 calls, so that one object can be asked twice within its 512.
 */
final class Answers {
    private final SpaceWalls space;
    private final StringBuilder text = new StringBuilder();

    private Answers(SpaceWalls space) {
        this.space = space;
    }

    static String of(SpaceWalls space) {
        Answers answers = new Answers(space);
        answers.walls();
        answers.faces();
        answers.polynomials();
        answers.rooms();
        return answers.text.toString();
    }

    private void note(String call, int answer) {
        text.append(call).append(" is ").append(answer).append('\n');
    }

    private void walls() {
        for (int what = 0; what < 5; what++) {
            note("count " + what, space.count(what));
        }
        for (int wall = 0; wall <= Spaces.MOST_WALLS; wall++) {
            for (int what = 0; what < 4; what++) {
                note("told " + wall + " " + what, space.told(wall, what));
            }
        }
        note("row 0 0 0", space.row(0, 0, 0));
        note("row -3 2 5", space.row(-3, 2, 5));
        note("row far out", space.row(1000000, 1000000, 1000000));
    }

    private void faces() {
        for (int width = 0; width < 4; width++) {
            note("faces " + width, space.faces(width));
            for (int i = 0; i < 8; i++) {
                note("face " + width + " " + i, space.face(width, i));
            }
        }
        for (int row = 0; row < 14; row++) {
            note("width " + row, space.width(row));
        }
    }

    private void polynomials() {
        for (int i = 0; i < 4; i++) {
            note("poly " + i, space.poly(i));
        }
        for (int wall = 0; wall < Spaces.MOST_WALLS; wall++) {
            for (int i = 0; i < 3; i++) {
                note("without " + wall + " " + i, space.without(wall, i));
                note("on " + wall + " " + i, space.on(wall, i));
            }
        }
    }

    private void rooms() {
        note("boundedRooms", space.boundedRooms());
        note("far", space.far());
        note("left 2", space.left(2));
        note("left 7", space.left(7));
        int numbers = space.count(0);
        int first = space.face(numbers, 0);
        int last = space.face(numbers, space.count(2) - 1);
        for (int i = 1; i < 4; i++) {
            int room = space.face(numbers, i);
            note("bounded " + room, space.bounded(room) ? 1 : 0);
            note("walls " + room, space.walls(room));
            note("beside " + room + " " + (i - 1), space.beside(room, i - 1));
            note("way " + first + " " + room, space.way(first, room));
            note("step " + room + " " + last, space.step(room, last));
        }
    }
}
