import java.util.ArrayList;
import java.util.List;

/** One run of walls that come and go, in as many objects as its questions need: each has 512 calls. */
final class Renewed {
    private static final int CALLS = 512;

    private final int numbers;
    private final List<int[]> changes = new ArrayList<>();
    private SpaceWalls space;
    private int calls = 0;

    Renewed(int numbers) {
        this.numbers = numbers;
        space = new SpaceWalls(numbers);
    }

    int wall(int a, int b, int c, int e) {
        int answer = ask().wall(a, b, c, e);
        changes.add(new int[] {a, b, c, e});
        return answer;
    }

    boolean take(int wall) {
        boolean answer = ask().take(wall);
        changes.add(new int[] {wall});
        return answer;
    }

    /** The object for one more call, which must not be one that changes it. */
    SpaceWalls ask() {
        if (calls == CALLS) {
            space = new SpaceWalls(numbers);
            calls = 0;
            for (int[] change : changes) {
                changeAgain(change);
            }
        }
        calls++;
        return space;
    }

    private void changeAgain(int[] change) {
        calls++;
        if (change.length == 1) {
            space.take(change[0]);
        } else {
            space.wall(change[0], change[1], change[2], change[3]);
        }
    }
}
