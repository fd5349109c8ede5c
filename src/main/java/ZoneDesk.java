/**
 * Four zones, each a set of the points x1, x2, x3 from 0 to 9.
 *
 * A zone is held as one mark for each of its 1000 possible points, so that every call can do what its
 * promise says point by point, without a theory of bounds that would have to be right as well.
 */
public final class ZoneDesk {
    public static final int BAD_ARG = -1000;
    public static final int NONE = -2000;

    private static final int ZONES = 4;
    private static final int POINTS = 1000;
    private static final int MARKS = 4000;
    private static final int PAIRS = 16;
    private static final int VALUES = 10;
    private static final int TOP = 9;
    /** Added to a point's number, it adds 1 to x1, x2 and x3. */
    private static final int STEP = 111;
    private static final int DIFFERENCES = 19;

    /** Whether zone z has point p, at z * POINTS + p. */
    private final boolean[] marks = new boolean[MARKS];
    private final int[] hullBounds = new int[PAIRS];
    /** Whether the difference d was seen, at d + TOP. */
    private final boolean[] seen = new boolean[DIFFERENCES];

    public ZoneDesk() {
        for (int z = 0; z < ZONES; z++) {
            markAll(z);
        }
    }

    public int fresh(int z) {
        if (!isZone(z)) {
            return BAD_ARG;
        }
        markAll(z);
        return 0;
    }

    public int copy(int z, int y) {
        if (!isZone(z) || !isZone(y)) {
            return BAD_ARG;
        }
        for (int p = 0; p < POINTS; p++) {
            marks[z * POINTS + p] = marks[y * POINTS + p];
        }
        return 0;
    }

    public int constrain(int z, int pair, int c) {
        if (!isZone(z) || !isPair(pair) || c < -TOP || c > TOP) {
            return BAD_ARG;
        }
        for (int p = 0; p < POINTS; p++) {
            if (difference(pair, p) > c) {
                marks[z * POINTS + p] = false;
            }
        }
        return oneIfPoints(z);
    }

    public int meet(int z, int y) {
        if (!isZone(z) || !isZone(y)) {
            return BAD_ARG;
        }
        for (int p = 0; p < POINTS; p++) {
            if (!marks[y * POINTS + p]) {
                marks[z * POINTS + p] = false;
            }
        }
        return oneIfPoints(z);
    }

    public int hull(int z, int y) {
        if (!isZone(z) || !isZone(y)) {
            return BAD_ARG;
        }
        // The least set that constraints can make has, for each pair, the least bound that keeps all points.
        for (int pair = 0; pair < PAIRS; pair++) {
            int boundOfZ = greatestDifference(z, pair);
            int boundOfY = greatestDifference(y, pair);
            hullBounds[pair] = boundOfZ > boundOfY ? boundOfZ : boundOfY;
        }
        for (int p = 0; p < POINTS; p++) {
            marks[z * POINTS + p] = keepsHullBounds(p);
        }
        return oneIfPoints(z);
    }

    public int delay(int z) {
        if (!isZone(z)) {
            return BAD_ARG;
        }
        // Upwards, so that a point marked here is itself moved on later in the same loop.
        for (int p = 0; p < POINTS; p++) {
            if (marks[z * POINTS + p] && canRise(p, 1)) {
                marks[z * POINTS + p + STEP] = true;
            }
        }
        return oneIfPoints(z);
    }

    public int past(int z) {
        if (!isZone(z)) {
            return BAD_ARG;
        }
        // Downwards, for the same reason as delay goes upwards.
        for (int p = POINTS - 1 - STEP; p >= 0; p--) {
            if (canRise(p, 1) && marks[z * POINTS + p + STEP]) {
                marks[z * POINTS + p] = true;
            }
        }
        return oneIfPoints(z);
    }

    public int reset(int z, int i, int c) {
        if (!isZone(z) || !isCoordinate(i) || c < 0 || c > TOP) {
            return BAD_ARG;
        }
        int weight = weightOf(i);
        for (int p = 0; p < POINTS; p++) {
            int x = coordinate(i, p);
            if (x != c && marks[z * POINTS + p]) {
                marks[z * POINTS + p] = false;
                marks[z * POINTS + p + (c - x) * weight] = true;
            }
        }
        return oneIfPoints(z);
    }

    public int forget(int z, int i) {
        if (!isZone(z) || !isCoordinate(i)) {
            return BAD_ARG;
        }
        int weight = weightOf(i);
        for (int p = 0; p < POINTS; p++) {
            if (coordinate(i, p) == 0) {
                fillLine(z, p, weight);
            }
        }
        return oneIfPoints(z);
    }

    public boolean empty(int z) {
        return isZone(z) && lowestPoint(z) == NONE;
    }

    public boolean has(int z, int point) {
        return isZone(z) && point >= 0 && point < POINTS && marks[z * POINTS + point];
    }

    public int bound(int z, int pair) {
        if (!isZone(z) || !isPair(pair)) {
            return BAD_ARG;
        }
        return greatestDifference(z, pair);
    }

    public int count(int z) {
        if (!isZone(z)) {
            return BAD_ARG;
        }
        int points = 0;
        for (int p = 0; p < POINTS; p++) {
            if (marks[z * POINTS + p]) {
                points++;
            }
        }
        return points;
    }

    public boolean within(int z, int y) {
        if (!isZone(z) || !isZone(y)) {
            return false;
        }
        for (int p = 0; p < POINTS; p++) {
            if (marks[z * POINTS + p] && !marks[y * POINTS + p]) {
                return false;
            }
        }
        return true;
    }

    public boolean touches(int z, int y) {
        return isZone(z) && isZone(y) && touchesWhenMoved(z, y, 0);
    }

    public int least(int z) {
        if (!isZone(z)) {
            return BAD_ARG;
        }
        return lowestPoint(z);
    }

    public int spread(int z, int pair) {
        if (!isZone(z) || !isPair(pair)) {
            return BAD_ARG;
        }
        for (int d = 0; d < DIFFERENCES; d++) {
            seen[d] = false;
        }
        int values = 0;
        for (int p = 0; p < POINTS; p++) {
            int d = difference(pair, p) + TOP;
            if (marks[z * POINTS + p] && !seen[d]) {
                seen[d] = true;
                values++;
            }
        }
        return values;
    }

    public int meeting(int z, int y) {
        if (!isZone(z) || !isZone(y)) {
            return BAD_ARG;
        }
        for (int d = 0; d <= TOP; d++) {
            if (touchesWhenMoved(z, y, d)) {
                return d;
            }
        }
        return NONE;
    }

    private static boolean isZone(int z) {
        return z >= 0 && z < ZONES;
    }

    private static boolean isPair(int pair) {
        return pair >= 0 && pair < PAIRS && pair / 4 != pair % 4;
    }

    private static boolean isCoordinate(int i) {
        return i >= 1 && i <= 3;
    }

    /** What a point's number grows by when xi grows by 1. */
    private static int weightOf(int i) {
        return i == 1 ? 1 : i == 2 ? 10 : 100;
    }

    /** xi of point p, for i from 0 to 3. */
    private static int coordinate(int i, int p) {
        switch (i) {
            case 1:
                return p % 10;
            case 2:
                return p / 10 % 10;
            case 3:
                return p / 100;
            default:
                return 0;
        }
    }

    /** xi - xj of point p, with pair = 4 i + j. */
    private static int difference(int pair, int p) {
        return coordinate(pair / 4, p) - coordinate(pair % 4, p);
    }

    /** Whether x1, x2 and x3 of point p can all grow by d and still be 9 or less. */
    private static boolean canRise(int p, int d) {
        return coordinate(1, p) + d <= TOP && coordinate(2, p) + d <= TOP && coordinate(3, p) + d <= TOP;
    }

    private void markAll(int z) {
        for (int p = 0; p < POINTS; p++) {
            marks[z * POINTS + p] = true;
        }
    }

    private int lowestPoint(int z) {
        for (int p = 0; p < POINTS; p++) {
            if (marks[z * POINTS + p]) {
                return p;
            }
        }
        return NONE;
    }

    private int oneIfPoints(int z) {
        return lowestPoint(z) == NONE ? 0 : 1;
    }

    /** NONE stands for the empty zone's bound: it is below every difference, as hull needs it to be. */
    private int greatestDifference(int z, int pair) {
        int greatest = NONE;
        for (int p = 0; p < POINTS; p++) {
            int d = difference(pair, p);
            if (marks[z * POINTS + p] && d > greatest) {
                greatest = d;
            }
        }
        return greatest;
    }

    private boolean keepsHullBounds(int p) {
        for (int pair = 0; pair < PAIRS; pair++) {
            if (difference(pair, p) > hullBounds[pair]) {
                return false;
            }
        }
        return true;
    }

    /** Marks all ten points from start on, in steps of weight, if one of them is marked. */
    private void fillLine(int z, int start, int weight) {
        boolean any = false;
        for (int x = 0; x < VALUES; x++) {
            any = any || marks[z * POINTS + start + x * weight];
        }
        for (int x = 0; x < VALUES; x++) {
            marks[z * POINTS + start + x * weight] = any;
        }
    }

    private boolean touchesWhenMoved(int z, int y, int d) {
        for (int p = 0; p < POINTS; p++) {
            if (marks[z * POINTS + p] && canRise(p, d) && marks[y * POINTS + p + d * STEP]) {
                return true;
            }
        }
        return false;
    }
}
