/**
 * Long fixed runs of calls, each answer compared with that of a second way of holding a zone: the table of the
 * least bounds of all differences xi - xj. The class itself holds points, so a slip would have to be made twice,
 * in two different forms, to stay unseen here.
 */
public final class ModelTest {
    private static final int RUNS = 600;
    private static final int CALLS = 512;
    private static final int FAR = 1000;
    private static final int BAD = -1000;
    private static final int NONE = -2000;

    private static int wrong = 0;
    private static long state;

    /** A fixed sequence, the same in every run of the test. */
    private static int next(int bound) {
        state = state * 6364136223846793005L + 1442695040888963407L;
        return (int) ((state >>> 33) % bound);
    }

    /** A zone as a closed table of bounds; null stands for the empty zone. */
    private static int[][] freshTable() {
        int[][] t = new int[4][4];
        for (int i = 0; i < 4; i++) {
            for (int j = 0; j < 4; j++) {
                t[i][j] = i == j || i == 0 ? 0 : 9;
            }
        }
        return t;
    }

    private static int[][] twin(int[][] t) {
        if (t == null) {
            return null;
        }
        int[][] u = new int[4][];
        for (int i = 0; i < 4; i++) {
            u[i] = t[i].clone();
        }
        return u;
    }

    private static int[][] closed(int[][] t) {
        for (int k = 0; k < 4; k++) {
            for (int i = 0; i < 4; i++) {
                for (int j = 0; j < 4; j++) {
                    t[i][j] = Math.min(t[i][j], t[i][k] + t[k][j]);
                }
            }
        }
        for (int i = 0; i < 4; i++) {
            if (t[i][i] < 0) {
                return null;
            }
        }
        return t;
    }

    private static int[][] constrained(int[][] t, int i, int j, int c) {
        if (t == null) {
            return null;
        }
        int[][] u = twin(t);
        u[i][j] = Math.min(u[i][j], c);
        return closed(u);
    }

    private static int[][] met(int[][] t, int[][] s) {
        if (t == null || s == null) {
            return null;
        }
        int[][] u = twin(t);
        for (int i = 0; i < 4; i++) {
            for (int j = 0; j < 4; j++) {
                u[i][j] = Math.min(u[i][j], s[i][j]);
            }
        }
        return closed(u);
    }

    private static int[][] hullOf(int[][] t, int[][] s) {
        if (t == null || s == null) {
            return twin(t == null ? s : t);
        }
        int[][] u = twin(t);
        for (int i = 0; i < 4; i++) {
            for (int j = 0; j < 4; j++) {
                u[i][j] = Math.max(u[i][j], s[i][j]);
            }
        }
        return closed(u);
    }

    private static int[][] delayed(int[][] t) {
        if (t == null) {
            return null;
        }
        int[][] u = twin(t);
        for (int i = 1; i < 4; i++) {
            u[i][0] = 9;
        }
        return closed(u);
    }

    private static int[][] before(int[][] t) {
        if (t == null) {
            return null;
        }
        int[][] u = twin(t);
        for (int i = 1; i < 4; i++) {
            u[0][i] = 0;
        }
        return closed(u);
    }

    private static int[][] forgotten(int[][] t, int i) {
        if (t == null) {
            return null;
        }
        int[][] u = twin(t);
        for (int j = 0; j < 4; j++) {
            if (j != i) {
                u[i][j] = FAR;
                u[j][i] = FAR;
            }
        }
        u[i][0] = 9;
        u[0][i] = 0;
        return closed(u);
    }

    private static int[][] resetTo(int[][] t, int i, int c) {
        return constrained(constrained(forgotten(t, i), i, 0, c), 0, i, -c);
    }

    private static int[][] moved(int[][] t, int d) {
        if (t == null) {
            return null;
        }
        int[][] u = twin(t);
        for (int i = 1; i < 4; i++) {
            u[i][0] += d;
            u[0][i] -= d;
        }
        return u;
    }

    private static boolean hasPoint(int[][] t, int p) {
        if (t == null) {
            return false;
        }
        int[] x = {0, p % 10, p / 10 % 10, p / 100};
        for (int i = 0; i < 4; i++) {
            for (int j = 0; j < 4; j++) {
                if (x[i] - x[j] > t[i][j]) {
                    return false;
                }
            }
        }
        return true;
    }

    private static int countOf(int[][] t) {
        int n = 0;
        for (int p = 0; p < 1000; p++) {
            n += hasPoint(t, p) ? 1 : 0;
        }
        return n;
    }

    /** The least x3, then x2, then x1: each least value can be taken, because the bounds are whole and closed. */
    private static int leastOf(int[][] t) {
        if (t == null) {
            return NONE;
        }
        int x3 = -t[0][3];
        int[][] u = constrained(t, 3, 0, x3);
        int x2 = -u[0][2];
        u = constrained(u, 2, 0, x2);
        return -u[0][1] + 10 * x2 + 100 * x3;
    }

    private static boolean isWithin(int[][] t, int[][] s) {
        if (t == null || s == null) {
            return t == null;
        }
        for (int i = 0; i < 4; i++) {
            for (int j = 0; j < 4; j++) {
                if (t[i][j] > s[i][j]) {
                    return false;
                }
            }
        }
        return true;
    }

    private static int meetingOf(int[][] t, int[][] s) {
        for (int d = 0; d < 10; d++) {
            if (met(moved(t, d), s) != null) {
                return d;
            }
        }
        return NONE;
    }

    private static void due(int run, int call, String what, int got, int want) {
        if (got != want) {
            wrong++;
            if (wrong <= 20) {
                System.out.println("run " + run + ", call " + call + ": " + what + " answered " + got + ", due is " + want);
            }
        }
    }

    private static int one(boolean b) {
        return b ? 1 : 0;
    }

    /** Mostly an argument in its range, sometimes one just outside of it or far away. */
    private static int near(int low, int high) {
        switch (next(60)) {
            case 0:
                return low - 1;
            case 1:
                return high + 1;
            case 2:
                return next(2) == 0 ? Integer.MIN_VALUE : Integer.MAX_VALUE;
            default:
                return low + next(high - low + 1);
        }
    }

    private static boolean in(int value, int low, int high) {
        return low <= value && value <= high;
    }

    private static boolean goodPair(int pair) {
        return in(pair, 0, 15) && pair / 4 != pair % 4;
    }

    private static int change(int[][][] zones, int z, int[][] t) {
        zones[z] = t;
        return one(t != null);
    }

    private static void oneChange(ZoneDesk desk, int[][][] zones, int run, int call) {
        int z = near(0, 3);
        int y = near(0, 3);
        boolean okZ = in(z, 0, 3);
        boolean ok = okZ && in(y, 0, 3);
        int[][] t = okZ ? zones[z] : null;
        int[][] s = ok ? zones[y] : null;
        switch (next(16)) {
            case 0: {
                due(run, call, "fresh " + z, desk.fresh(z), okZ ? change(zones, z, freshTable()) - 1 : BAD);
                break;
            }
            case 1: {
                int got = desk.copy(z, y);
                due(run, call, "copy " + z + " " + y, got, ok ? 0 : BAD);
                if (ok) {
                    zones[z] = twin(s);
                }
                break;
            }
            case 2: {
                due(run, call, "meet " + z + " " + y, desk.meet(z, y), ok ? change(zones, z, met(t, s)) : BAD);
                break;
            }
            case 3:
            case 4: {
                due(run, call, "hull " + z + " " + y, desk.hull(z, y), ok ? change(zones, z, hullOf(t, s)) : BAD);
                break;
            }
            case 5: {
                due(run, call, "delay " + z, desk.delay(z), okZ ? change(zones, z, delayed(t)) : BAD);
                break;
            }
            case 6: {
                due(run, call, "past " + z, desk.past(z), okZ ? change(zones, z, before(t)) : BAD);
                break;
            }
            case 7:
            case 8: {
                int i = near(1, 3);
                int c = near(0, 9);
                boolean good = okZ && in(i, 1, 3) && in(c, 0, 9);
                due(run, call, "reset " + z + " " + i + " " + c, desk.reset(z, i, c),
                    good ? change(zones, z, resetTo(t, i, c)) : BAD);
                break;
            }
            case 9: {
                int i = near(1, 3);
                due(run, call, "forget " + z + " " + i, desk.forget(z, i),
                    okZ && in(i, 1, 3) ? change(zones, z, forgotten(t, i)) : BAD);
                break;
            }
            default: {
                int pair = near(0, 15);
                int c = next(3) == 0 ? near(-9, 9) : near(0, 9);
                boolean good = okZ && goodPair(pair) && in(c, -9, 9);
                due(run, call, "constrain " + z + " " + pair + " " + c, desk.constrain(z, pair, c),
                    good ? change(zones, z, constrained(t, pair / 4, pair % 4, c)) : BAD);
            }
        }
    }

    private static void oneQuestion(ZoneDesk desk, int[][][] zones, int run, int call) {
        int z = near(0, 3);
        int y = near(0, 3);
        int pair = near(0, 15);
        int point = near(0, 999);
        boolean okZ = in(z, 0, 3);
        boolean ok = okZ && in(y, 0, 3);
        boolean okPair = okZ && goodPair(pair);
        int i = okPair ? pair / 4 : 0;
        int j = okPair ? pair % 4 : 0;
        int[][] t = okZ ? zones[z] : null;
        int[][] s = ok ? zones[y] : null;
        switch (next(9)) {
            case 0:
                due(run, call, "empty " + z, one(desk.empty(z)), one(okZ && t == null));
                break;
            case 1:
                due(run, call, "has " + z + " " + point, one(desk.has(z, point)),
                    one(okZ && in(point, 0, 999) && hasPoint(t, point)));
                break;
            case 2:
                due(run, call, "bound " + z + " " + pair, desk.bound(z, pair), !okPair ? BAD : t == null ? NONE : t[i][j]);
                break;
            case 3:
                due(run, call, "count " + z, desk.count(z), okZ ? countOf(t) : BAD);
                break;
            case 4:
                due(run, call, "within " + z + " " + y, one(desk.within(z, y)), one(ok && isWithin(t, s)));
                break;
            case 5:
                due(run, call, "touches " + z + " " + y, one(desk.touches(z, y)), one(ok && met(t, s) != null));
                break;
            case 6:
                due(run, call, "least " + z, desk.least(z), okZ ? leastOf(t) : BAD);
                break;
            case 7:
                due(run, call, "spread " + z + " " + pair, desk.spread(z, pair),
                    !okPair ? BAD : t == null ? 0 : t[i][j] + t[j][i] + 1);
                break;
            default:
                due(run, call, "meeting " + z + " " + y, desk.meeting(z, y), ok ? meetingOf(t, s) : BAD);
        }
    }

    public static void main(String[] args) {
        for (int run = 0; run < RUNS; run++) {
            state = run;
            ZoneDesk desk = new ZoneDesk();
            int[][][] zones = {freshTable(), freshTable(), freshTable(), freshTable()};
            for (int call = 0; call < CALLS; call++) {
                if (next(2) == 0) {
                    oneChange(desk, zones, run, call);
                } else {
                    oneQuestion(desk, zones, run, call);
                }
            }
        }
        System.out.println(wrong == 0 ? "all answers are as due" : wrong + " answers are not as due");
        if (wrong != 0) {
            System.exit(1);
        }
    }
}
