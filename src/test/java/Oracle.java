import java.math.BigInteger;
import java.util.ArrayList;
import java.util.List;
import java.util.TreeSet;

/**
 * What the document asks, found the slow way and by other means than the program's: faces by
 * Fourier and Motzkin's elimination of every row, the rest by the words of the terms.
 */
final class Oracle {
    private enum Kind { EQUAL, ABOVE, NOT_BELOW }

    /** factors[0] x + factors[1] y + factors[2] z + factors[3] is 0, above 0 or not below 0. */
    private record Claim(BigInteger[] factors, Kind kind) { }

    final int numbers;
    final List<int[]> walls;
    final TreeSet<Integer> rows = new TreeSet<>();

    Oracle(int numbers, List<int[]> walls) {
        this.numbers = numbers;
        this.walls = walls;
        findRows(0, 1, 0, new ArrayList<>());
    }

    private void findRows(int wall, int power, int row, List<Claim> claims) {
        if (!canHold(claims)) {
            return;
        }
        if (wall == walls.size()) {
            rows.add(row);
            return;
        }
        int[] w = walls.get(wall);
        for (int sign = 0; sign < 3; sign++) {
            List<Claim> more = new ArrayList<>(claims);
            more.add(sideOf(w, w[3], sign, false));
            findRows(wall + 1, 3 * power, row + sign * power, more);
        }
    }

    private static Claim sideOf(int[] w, int height, int sign, boolean closed) {
        int turn = sign == 0 ? -1 : 1;
        BigInteger[] f = new BigInteger[4];
        for (int i = 0; i < 3; i++) {
            f[i] = BigInteger.valueOf((long) turn * w[i]);
        }
        f[3] = BigInteger.valueOf((long) -turn * height);
        return new Claim(f, sign == 1 ? Kind.EQUAL : closed ? Kind.NOT_BELOW : Kind.ABOVE);
    }

    private static boolean canHold(List<Claim> claims) {
        List<Claim> now = claims;
        for (int variable = 0; variable < 3; variable++) {
            now = eliminate(now, variable);
        }
        for (Claim claim : now) {
            int sign = claim.factors[3].signum();
            boolean fine = switch (claim.kind) {
                case EQUAL -> sign == 0;
                case ABOVE -> sign > 0;
                case NOT_BELOW -> sign >= 0;
            };
            if (!fine) {
                return false;
            }
        }
        return true;
    }

    private static List<Claim> eliminate(List<Claim> claims, int variable) {
        List<Claim> next = new ArrayList<>();
        Claim pivot = null;
        for (Claim claim : claims) {
            if (claim.kind == Kind.EQUAL && claim.factors[variable].signum() != 0) {
                pivot = claim;
            }
        }
        List<Claim> up = new ArrayList<>();
        List<Claim> down = new ArrayList<>();
        for (Claim claim : claims) {
            int sign = claim.factors[variable].signum();
            if (claim == pivot) {
                continue;
            } else if (sign == 0) {
                next.add(claim);
            } else if (pivot != null) {
                BigInteger by = claim.factors[variable].negate();
                if (pivot.factors[variable].signum() < 0) {
                    by = by.negate();
                }
                next.add(new Claim(mix(claim, pivot.factors[variable].abs(), pivot, by), claim.kind));
            } else {
                (sign > 0 ? up : down).add(claim);
            }
        }
        for (Claim u : up) {
            for (Claim d : down) {
                Kind kind = u.kind == Kind.ABOVE || d.kind == Kind.ABOVE ? Kind.ABOVE : Kind.NOT_BELOW;
                next.add(new Claim(mix(u, d.factors[variable].negate(), d, u.factors[variable]), kind));
            }
        }
        return next;
    }

    private static BigInteger[] mix(Claim p, BigInteger byP, Claim q, BigInteger byQ) {
        BigInteger[] f = new BigInteger[4];
        for (int i = 0; i < 4; i++) {
            f[i] = p.factors[i].multiply(byP).add(q.factors[i].multiply(byQ));
        }
        return f;
    }

    int sign(int row, int wall) {
        int rest = row;
        for (int k = 0; k < wall; k++) {
            rest /= 3;
        }
        return rest % 3;
    }

    int flipped(int row, int wall) {
        int power = 1;
        for (int k = 0; k < wall; k++) {
            power *= 3;
        }
        return row + (2 - 2 * sign(row, wall)) * power;
    }

    int width(int row) {
        if (!rows.contains(row)) {
            return -1;
        }
        List<int[]> on = new ArrayList<>();
        for (int k = 0; k < walls.size(); k++) {
            if (sign(row, k) == 1) {
                on.add(walls.get(k));
            }
        }
        return numbers - rank(on, 3);
    }

    boolean isRoom(int row) {
        return width(row) == numbers;
    }

    /** A room is bounded if no number can grow in it, up or down, for ever. */
    boolean bounded(int row) {
        if (!isRoom(row)) {
            return false;
        }
        for (int i = 0; i < numbers; i++) {
            for (int turn = -1; turn <= 1; turn += 2) {
                List<Claim> claims = new ArrayList<>();
                for (int k = 0; k < walls.size(); k++) {
                    claims.add(sideOf(walls.get(k), 0, sign(row, k), true));
                }
                int[] axis = {0, 0, 0};
                axis[i] = turn;
                claims.add(sideOf(axis, 0, 2, false));
                if (canHold(claims)) {
                    return false;
                }
            }
        }
        return true;
    }

    /** The rank of the first columns, by elimination that keeps whole numbers. */
    static int rank(List<int[]> heap, int columns) {
        List<BigInteger[]> left = new ArrayList<>();
        for (int[] w : heap) {
            BigInteger[] f = new BigInteger[columns];
            for (int i = 0; i < columns; i++) {
                f[i] = BigInteger.valueOf(w[i]);
            }
            left.add(f);
        }
        int rank = 0;
        for (int column = 0; column < columns; column++) {
            BigInteger[] pivot = null;
            for (BigInteger[] f : left) {
                if (f[column].signum() != 0) {
                    pivot = f;
                }
            }
            if (pivot == null) {
                continue;
            }
            left.remove(pivot);
            rank++;
            for (BigInteger[] f : left) {
                BigInteger by = f[column];
                for (int i = 0; i < columns; i++) {
                    f[i] = f[i].multiply(pivot[column]).subtract(pivot[i].multiply(by));
                }
            }
        }
        return rank;
    }

    static boolean meet(List<int[]> heap) {
        return rank(heap, 3) == rank(heap, 4);
    }

    /** The polynomial's factors for t to the power of 0 .. 3, with some walls left out. */
    long[] polynomial(int leftOut) {
        List<int[]> used = new ArrayList<>();
        for (int k = 0; k < walls.size(); k++) {
            if (k != leftOut) {
                used.add(walls.get(k));
            }
        }
        return sumHeaps(used, new ArrayList<>());
    }

    /** Traces on a wall: walls of the flat that the wall is, each once. */
    long[] polynomialOn(int wall) {
        int[] ground = walls.get(wall);
        List<int[]> traces = new ArrayList<>();
        for (int k = 0; k < walls.size(); k++) {
            int[] w = walls.get(k);
            boolean isNew = k != wall && rank(List.of(ground, w), 3) == 2;
            for (int[] trace : traces) {
                isNew = isNew && rank(List.of(ground, trace, w), 4) != 2;
            }
            if (isNew) {
                traces.add(w);
            }
        }
        return sumHeaps(traces, List.of(ground));
    }

    private long[] sumHeaps(List<int[]> from, List<int[]> always) {
        long[] sum = new long[4];
        for (int bits = 0; bits < 1 << from.size(); bits++) {
            List<int[]> heap = new ArrayList<>(always);
            for (int k = 0; k < from.size(); k++) {
                if ((bits >> k & 1) == 1) {
                    heap.add(from.get(k));
                }
            }
            if (meet(heap)) {
                // A wall as ground takes one from the numbers and one from the rank.
                sum[numbers - rank(heap, 3)] += Integer.bitCount(bits) % 2 == 0 ? 1 : -1;
            }
        }
        return sum;
    }

    int row(int x, int y, int z) {
        int row = 0;
        int power = 1;
        for (int[] w : walls) {
            long at = (long) w[0] * x + (long) w[1] * y + (long) w[2] * z;
            row += power * (Long.compare(at, w[3]) + 1);
            power *= 3;
        }
        return row;
    }

    int left(int p) {
        int sum = 0;
        for (int x = 0; x < p; x++) {
            for (int y = 0; y < (numbers > 1 ? p : 1); y++) {
                for (int z = 0; z < (numbers > 2 ? p : 1); z++) {
                    boolean free = true;
                    for (int[] w : walls) {
                        free = free && (w[0] * x + w[1] * y + w[2] * z - w[3]) % p != 0;
                    }
                    sum += free ? 1 : 0;
                }
            }
        }
        return sum;
    }

    int parting(int from, int to) {
        int sum = 0;
        for (int k = 0; k < walls.size(); k++) {
            sum += sign(from, k) == sign(to, k) ? 0 : 1;
        }
        return sum;
    }

    int firstStep(int from, int to) {
        for (int k = 0; k < walls.size(); k++) {
            if (sign(from, k) != sign(to, k) && isRoom(flipped(from, k))) {
                return k;
            }
        }
        return -1;
    }
}
