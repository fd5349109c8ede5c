import java.util.function.ToIntFunction;

/** Each promise of the document by itself: ordinary inputs, the edges it names, and wrong inputs. */
public final class PromiseTest {
    private static final int BAD = -1000;
    private static final int NONE = -2000;
    private static final int[] WRONG_ZONES = {-1, 4, 5, Integer.MIN_VALUE, Integer.MAX_VALUE};
    private static final int[] WRONG_PAIRS = {-1, -3, 0, 5, 10, 15, 16, 17, Integer.MIN_VALUE, Integer.MAX_VALUE};
    private static final int[] PAIRS = {1, 2, 3, 4, 6, 7, 8, 9, 11, 12, 13, 14};

    private static int wrong = 0;

    private static void due(int promise, String what, int got, int want) {
        if (got != want) {
            wrong++;
            System.out.println("promise " + promise + ": " + what + " answered " + got + ", due is " + want);
        }
    }

    private static void due(int promise, String what, boolean got, boolean want) {
        due(promise, what, got ? 1 : 0, want ? 1 : 0);
    }

    /** Makes zone z the one point x1 x2 x3. */
    private static void point(ZoneDesk desk, int z, int x1, int x2, int x3) {
        desk.fresh(z);
        desk.reset(z, 1, x1);
        desk.reset(z, 2, x2);
        desk.reset(z, 3, x3);
    }

    private static void clear(ZoneDesk desk, int z) {
        desk.constrain(z, 4, 0);
        desk.constrain(z, 1, -1);
    }

    /** A desk with four different zones: a bounded one, one point, an empty one and a fresh one. */
    private static ZoneDesk mixedDesk() {
        ZoneDesk desk = new ZoneDesk();
        desk.constrain(0, 6, 2);
        desk.constrain(0, 13, -1);
        desk.constrain(0, 8, 7);
        point(desk, 1, 3, 5, 7);
        clear(desk, 2);
        return desk;
    }

    /** A refused call answers its code and leaves all zones as they were. */
    private static void refused(int promise, String what, int code, ToIntFunction<ZoneDesk> call) {
        ZoneDesk desk = mixedDesk();
        due(promise, what, call.applyAsInt(desk), code);
        due(promise, what + ", then whether nothing changed", differences(desk, mixedDesk()), 0);
    }

    private static int differences(ZoneDesk a, ZoneDesk b) {
        int found = 0;
        for (int z = 0; z < 4; z++) {
            found += a.count(z) == b.count(z) ? 0 : 1;
            found += a.least(z) == b.least(z) ? 0 : 1;
            for (int pair : PAIRS) {
                found += a.bound(z, pair) == b.bound(z, pair) ? 0 : 1;
            }
        }
        return found;
    }

    /** Zone z has exactly the points listed; asked of a desk of its own, for the questions are many. */
    private static void points(int promise, String what, ToIntFunction<ZoneDesk> make, int... listed) {
        for (int part = 0; part < 4; part++) {
            ZoneDesk desk = new ZoneDesk();
            int z = make.applyAsInt(desk);
            due(promise, what + ": count", desk.count(z), listed.length);
            for (int p = part * 250; p < part * 250 + 250; p++) {
                boolean want = false;
                for (int q : listed) {
                    want = want || p == q;
                }
                due(promise, what + ": has " + p, desk.has(z, p), want);
            }
        }
    }

    private static int one(boolean b) {
        return b ? 1 : 0;
    }

    private static void newObject() {
        ZoneDesk desk = new ZoneDesk();
        for (int z = 0; z < 4; z++) {
            due(1, "count of new zone " + z, desk.count(z), 1000);
            due(1, "least of new zone " + z, desk.least(z), 0);
            due(1, "empty of new zone " + z, desk.empty(z), false);
        }
        ZoneDesk other = new ZoneDesk();
        clear(other, 0);
        due(1, "count after another object's zone was emptied", desk.count(0), 1000);
        due(1, "count of the zone beside the emptied one", other.count(1), 1000);
    }

    private static void fresh() {
        for (int z = 0; z < 4; z++) {
            ZoneDesk desk = mixedDesk();
            int before = desk.count((z + 1) % 4);
            due(2, "fresh(" + z + ")", desk.fresh(z), 0);
            due(2, "count after fresh(" + z + ")", desk.count(z), 1000);
            due(2, "count of the next zone", desk.count((z + 1) % 4), before);
        }
        for (int z : WRONG_ZONES) {
            refused(2, "fresh(" + z + ")", BAD, d -> d.fresh(z));
        }
    }

    private static void copy() {
        ZoneDesk desk = mixedDesk();
        due(3, "copy(3, 1)", desk.copy(3, 1), 0);
        due(3, "least of the copy", desk.least(3), 753);
        due(3, "count of the copy", desk.count(3), 1);
        due(3, "count of the copied", desk.count(1), 1);
        desk.forget(1, 1);
        due(3, "count of the copy after the copied changed", desk.count(3), 1);
        due(3, "copy of an empty zone", desk.copy(0, 2), 0);
        due(3, "empty after it", desk.empty(0), true);
        due(3, "copy onto itself", desk.copy(3, 3), 0);
        due(3, "least after it", desk.least(3), 753);
        for (int z : WRONG_ZONES) {
            refused(3, "copy(" + z + ", 0)", BAD, d -> d.copy(z, 0));
            refused(3, "copy(0, " + z + ")", BAD, d -> d.copy(0, z));
        }
    }

    private static void constrain() {
        for (int pair : PAIRS) {
            for (int c = -9; c <= 9; c++) {
                ZoneDesk desk = new ZoneDesk();
                int left = 0;
                for (int p = 0; p < 1000; p++) {
                    left += one(difference(pair, p) <= c);
                }
                due(4, "constrain(2, " + pair + ", " + c + ")", desk.constrain(2, pair, c), left > 0 ? 1 : 0);
                due(4, "count after constrain(2, " + pair + ", " + c + ")", desk.count(2), left);
                due(4, "count of zone 1", desk.count(1), 1000);
            }
        }
        ZoneDesk desk = mixedDesk();
        due(4, "constrain on an empty zone", desk.constrain(2, 6, 9), 0);
        for (int z : WRONG_ZONES) {
            refused(4, "constrain(" + z + ", 6, 0)", BAD, d -> d.constrain(z, 6, 0));
        }
        for (int pair : WRONG_PAIRS) {
            refused(4, "constrain(0, " + pair + ", -9)", BAD, d -> d.constrain(0, pair, -9));
        }
        for (int c : new int[] {-10, 10, Integer.MIN_VALUE, Integer.MAX_VALUE}) {
            refused(4, "constrain(0, 6, " + c + ")", BAD, d -> d.constrain(0, 6, c));
        }
    }

    private static void meet() {
        points(5, "x1 = 0, x2 = 9, met with x3 from 4 to 5", d -> {
            d.reset(0, 1, 0);
            d.reset(0, 2, 9);
            d.constrain(1, 12, 5);
            d.constrain(1, 3, -4);
            due(5, "meet(0, 1)", d.meet(0, 1), 1);
            return 0;
        }, 490, 590);
        ZoneDesk desk = mixedDesk();
        due(5, "meet with itself", desk.meet(1, 1), 1);
        due(5, "count after it", desk.count(1), 1);
        due(5, "meet of fresh with a point", desk.meet(3, 1), 1);
        due(5, "least after it", desk.least(3), 753);
        point(desk, 0, 3, 5, 8);
        due(5, "meet of two points", desk.meet(0, 1), 0);
        due(5, "empty after it", desk.empty(0), true);
        due(5, "count of the other one", desk.count(1), 1);
        due(5, "meet with an empty zone", desk.meet(3, 2), 0);
        for (int z : WRONG_ZONES) {
            refused(5, "meet(" + z + ", 2)", BAD, d -> d.meet(z, 2));
            refused(5, "meet(0, " + z + ")", BAD, d -> d.meet(0, z));
        }
    }

    private static void hull() {
        points(6, "hull of 000 and 222", d -> {
            point(d, 0, 0, 0, 0);
            point(d, 1, 2, 2, 2);
            due(6, "hull(0, 1)", d.hull(0, 1), 1);
            return 0;
        }, 0, 111, 222);
        points(6, "hull of 100 and 010 (x1 = 1, or x2 = 1)", d -> {
            point(d, 2, 1, 0, 0);
            point(d, 3, 0, 1, 0);
            due(6, "hull(2, 3)", d.hull(2, 3), 1);
            return 2;
        }, 0, 1, 10, 11);
        points(6, "the hull's other zone", d -> {
            point(d, 2, 1, 0, 0);
            point(d, 3, 0, 1, 0);
            d.hull(2, 3);
            return 3;
        }, 10);
        points(6, "hull of 990 and 992", d -> {
            point(d, 0, 0, 9, 9);
            point(d, 1, 2, 9, 9);
            d.hull(0, 1);
            return 0;
        }, 990, 991, 992);
        hullsOfTwoPoints();
        ZoneDesk desk = mixedDesk();
        int before = desk.count(0);
        due(6, "hull with itself", desk.hull(0, 0), 1);
        due(6, "count after it", desk.count(0), before);
        due(6, "hull with an empty zone", desk.hull(0, 2), 1);
        due(6, "count after it", desk.count(0), before);
        due(6, "hull of an empty zone with itself", desk.hull(2, 2), 0);
        due(6, "hull of an empty zone with a point", desk.hull(2, 1), 1);
        due(6, "count after it", desk.count(2), 1);
        due(6, "least after it", desk.least(2), 753);
        clear(desk, 0);
        clear(desk, 1);
        due(6, "hull of two empty zones", desk.hull(0, 1), 0);
        due(6, "empty after it", desk.empty(0), true);
        for (int z : WRONG_ZONES) {
            refused(6, "hull(" + z + ", 3)", BAD, d -> d.hull(z, 3));
            refused(6, "hull(1, " + z + ")", BAD, d -> d.hull(1, z));
        }
    }

    /** The number of points that keep every bound which both points keep. */
    private static void hullsOfTwoPoints() {
        for (int p = 0; p < 1000; p += 37) {
            for (int q = 999; q >= 0; q -= 111) {
                int kept = 0;
                for (int r = 0; r < 1000; r++) {
                    kept += one(keepsBoundsOfBoth(r, p, q));
                }
                ZoneDesk desk = new ZoneDesk();
                point(desk, 0, p % 10, p / 10 % 10, p / 100);
                point(desk, 1, q % 10, q / 10 % 10, q / 100);
                due(6, "hull of " + p + " and " + q, desk.hull(0, 1), 1);
                due(6, "count of the hull of " + p + " and " + q, desk.count(0), kept);
                due(6, "whether it has the first", desk.has(0, p), true);
                due(6, "whether it has the second", desk.has(0, q), true);
            }
        }
    }

    private static boolean keepsBoundsOfBoth(int r, int p, int q) {
        for (int pair : PAIRS) {
            if (difference(pair, r) > Math.max(difference(pair, p), difference(pair, q))) {
                return false;
            }
        }
        return true;
    }

    private static int difference(int pair, int p) {
        int[] x = {0, p % 10, p / 10 % 10, p / 100};
        return x[pair / 4] - x[pair % 4];
    }

    private static void delay() {
        points(7, "delay of 753", d -> {
            point(d, 0, 3, 5, 7);
            due(7, "delay(0)", d.delay(0), 1);
            return 0;
        }, 753, 864, 975);
        points(7, "delay of 009", d -> {
            point(d, 0, 9, 0, 0);
            due(7, "delay(0)", d.delay(0), 1);
            return 0;
        }, 9);
        points(7, "delay of 090", d -> {
            point(d, 0, 0, 9, 0);
            due(7, "delay(0)", d.delay(0), 1);
            return 0;
        }, 90);
        points(7, "delay of 900", d -> {
            clear(d, 1);
            point(d, 0, 0, 0, 9);
            due(7, "delay(0)", d.delay(0), 1);
            due(7, "empty of the zone behind it", d.empty(1), true);
            return 0;
        }, 900);
        points(7, "delay of 000", d -> {
            point(d, 3, 0, 0, 0);
            due(7, "delay(3)", d.delay(3), 1);
            return 3;
        }, 0, 111, 222, 333, 444, 555, 666, 777, 888, 999);
        due(7, "delay of an empty zone", mixedDesk().delay(2), 0);
        for (int z : WRONG_ZONES) {
            refused(7, "delay(" + z + ")", BAD, d -> d.delay(z));
        }
    }

    private static void past() {
        points(8, "past of 753", d -> {
            point(d, 0, 3, 5, 7);
            due(8, "past(0)", d.past(0), 1);
            return 0;
        }, 753, 642, 531, 420);
        points(8, "past of 990", d -> {
            point(d, 0, 0, 9, 9);
            due(8, "past(0)", d.past(0), 1);
            return 0;
        }, 990);
        points(8, "past of 909", d -> {
            point(d, 0, 9, 0, 9);
            due(8, "past(0)", d.past(0), 1);
            return 0;
        }, 909);
        points(8, "past of 099", d -> {
            point(d, 1, 9, 9, 0);
            clear(d, 0);
            due(8, "past(1)", d.past(1), 1);
            due(8, "empty of the zone before it", d.empty(0), true);
            return 1;
        }, 99);
        points(8, "past of 999", d -> {
            point(d, 3, 9, 9, 9);
            due(8, "past(3)", d.past(3), 1);
            return 3;
        }, 0, 111, 222, 333, 444, 555, 666, 777, 888, 999);
        due(8, "past of an empty zone", mixedDesk().past(2), 0);
        for (int z : WRONG_ZONES) {
            refused(8, "past(" + z + ")", BAD, d -> d.past(z));
        }
    }

    private static void reset() {
        for (int c = 0; c <= 9; c++) {
            int to = c;
            points(9, "753 with x1 = " + c, d -> {
                point(d, 0, 3, 5, 7);
                due(9, "reset(0, 1, " + to + ")", d.reset(0, 1, to), 1);
                return 0;
            }, 750 + c);
            points(9, "753 with x2 = " + c, d -> {
                point(d, 0, 3, 5, 7);
                due(9, "reset(0, 2, " + to + ")", d.reset(0, 2, to), 1);
                return 0;
            }, 703 + 10 * c);
            points(9, "753 with x3 = " + c, d -> {
                point(d, 0, 3, 5, 7);
                due(9, "reset(0, 3, " + to + ")", d.reset(0, 3, to), 1);
                return 0;
            }, 53 + 100 * c);
        }
        points(9, "000 to 222 with x2 = 5", d -> {
            point(d, 0, 0, 0, 0);
            point(d, 1, 2, 2, 2);
            d.hull(0, 1);
            due(9, "reset(0, 2, 5)", d.reset(0, 2, 5), 1);
            return 0;
        }, 50, 151, 252);
        due(9, "reset of an empty zone", mixedDesk().reset(2, 3, 9), 0);
        for (int z : WRONG_ZONES) {
            refused(9, "reset(" + z + ", 1, 0)", BAD, d -> d.reset(z, 1, 0));
        }
        for (int i : new int[] {0, 4, -1, Integer.MIN_VALUE, Integer.MAX_VALUE}) {
            refused(9, "reset(0, " + i + ", 0)", BAD, d -> d.reset(0, i, 0));
            refused(9, "reset(2, " + i + ", 0)", BAD, d -> d.reset(2, i, 0));
        }
        for (int c : new int[] {-1, 10, Integer.MIN_VALUE, Integer.MAX_VALUE}) {
            refused(9, "reset(0, 1, " + c + ")", BAD, d -> d.reset(0, 1, c));
        }
    }

    private static void forget() {
        points(10, "753 without x1", d -> {
            point(d, 0, 3, 5, 7);
            due(10, "forget(0, 1)", d.forget(0, 1), 1);
            return 0;
        }, 750, 751, 752, 753, 754, 755, 756, 757, 758, 759);
        points(10, "753 without x2", d -> {
            point(d, 1, 3, 5, 7);
            due(10, "forget(1, 2)", d.forget(1, 2), 1);
            return 1;
        }, 703, 713, 723, 733, 743, 753, 763, 773, 783, 793);
        points(10, "753 without x3", d -> {
            point(d, 2, 3, 5, 7);
            due(10, "forget(2, 3)", d.forget(2, 3), 1);
            return 2;
        }, 53, 153, 253, 353, 453, 553, 653, 753, 853, 953);
        points(10, "000 without x1", d -> {
            point(d, 0, 0, 0, 0);
            d.forget(0, 1);
            return 0;
        }, 0, 1, 2, 3, 4, 5, 6, 7, 8, 9);
        points(10, "999 without x2", d -> {
            point(d, 0, 9, 9, 9);
            d.forget(0, 2);
            return 0;
        }, 909, 919, 929, 939, 949, 959, 969, 979, 989, 999);
        due(10, "forget of an empty zone", mixedDesk().forget(2, 1), 0);
        for (int z : WRONG_ZONES) {
            refused(10, "forget(" + z + ", 1)", BAD, d -> d.forget(z, 1));
        }
        for (int i : new int[] {0, 4, -1, Integer.MIN_VALUE, Integer.MAX_VALUE}) {
            refused(10, "forget(1, " + i + ")", BAD, d -> d.forget(1, i));
        }
    }

    private static void empty() {
        ZoneDesk desk = mixedDesk();
        due(11, "empty of a bounded zone", desk.empty(0), false);
        due(11, "empty of a point", desk.empty(1), false);
        due(11, "empty of an empty zone", desk.empty(2), true);
        due(11, "empty of a fresh zone", desk.empty(3), false);
        point(desk, 0, 9, 9, 9);
        due(11, "empty of the last point", desk.empty(0), false);
        point(desk, 0, 0, 0, 0);
        due(11, "empty of the first point", desk.empty(0), false);
        for (int z : WRONG_ZONES) {
            refused(11, "empty(" + z + ")", 0, d -> one(d.empty(z)));
        }
    }

    private static void has() {
        ZoneDesk desk = mixedDesk();
        due(12, "has(1, 753)", desk.has(1, 753), true);
        due(12, "has(1, 357)", desk.has(1, 357), false);
        due(12, "has(2, 0)", desk.has(2, 0), false);
        due(12, "has(3, 0)", desk.has(3, 0), true);
        due(12, "has(3, 999)", desk.has(3, 999), true);
        desk.fresh(0);
        for (int p : new int[] {-1, 1000, 1753, Integer.MIN_VALUE, Integer.MAX_VALUE}) {
            due(12, "has(0, " + p + ")", desk.has(0, p), false);
            due(12, "has(3, " + p + ")", desk.has(3, p), false);
        }
        for (int z : WRONG_ZONES) {
            refused(12, "has(" + z + ", 0)", 0, d -> one(d.has(z, 0)));
        }
    }

    private static void bound() {
        ZoneDesk desk = mixedDesk();
        int[] ofPoint = {-3, -5, -7, 3, -2, -4, 5, 2, -2, 7, 4, 2};
        int[] ofFresh = {0, 0, 0, 9, 9, 9, 9, 9, 9, 9, 9, 9};
        for (int k = 0; k < PAIRS.length; k++) {
            due(13, "bound(1, " + PAIRS[k] + ")", desk.bound(1, PAIRS[k]), ofPoint[k]);
            due(13, "bound(2, " + PAIRS[k] + ")", desk.bound(2, PAIRS[k]), NONE);
            due(13, "bound(3, " + PAIRS[k] + ")", desk.bound(3, PAIRS[k]), ofFresh[k]);
        }
        desk.constrain(3, 4, 3);
        desk.constrain(3, 9, 2);
        due(13, "bound of x2 from x1 <= 3 and x2 - x1 <= 2", desk.bound(3, 8), 5);
        for (int z : WRONG_ZONES) {
            refused(13, "bound(" + z + ", 1)", BAD, d -> d.bound(z, 1));
        }
        for (int pair : WRONG_PAIRS) {
            refused(13, "bound(0, " + pair + ")", BAD, d -> d.bound(0, pair));
        }
    }

    private static void count() {
        ZoneDesk desk = mixedDesk();
        due(14, "count(1)", desk.count(1), 1);
        due(14, "count(2)", desk.count(2), 0);
        due(14, "count(3)", desk.count(3), 1000);
        desk.constrain(3, 6, 0);
        due(14, "count with x1 <= x2", desk.count(3), 550);
        desk.constrain(3, 11, 0);
        due(14, "count with x1 <= x2 <= x3", desk.count(3), 220);
        for (int z : WRONG_ZONES) {
            refused(14, "count(" + z + ")", BAD, d -> d.count(z));
        }
    }

    private static void within() {
        ZoneDesk desk = mixedDesk();
        due(15, "a point in fresh", desk.within(1, 3), true);
        due(15, "fresh in a point", desk.within(3, 1), false);
        due(15, "empty in a point", desk.within(2, 1), true);
        due(15, "a point in empty", desk.within(1, 2), false);
        due(15, "empty in itself", desk.within(2, 2), true);
        due(15, "fresh in itself", desk.within(3, 3), true);
        desk.constrain(3, 12, 8);
        desk.fresh(0);
        due(15, "fresh in one that only lacks x3 = 9", desk.within(0, 3), false);
        desk.fresh(3);
        desk.constrain(3, 1, -1);
        due(15, "fresh in one that only lacks x1 = 0", desk.within(0, 3), false);
        point(desk, 0, 0, 0, 0);
        point(desk, 1, 9, 9, 9);
        due(15, "the first point in the last one", desk.within(0, 1), false);
        due(15, "the last point in the first one", desk.within(1, 0), false);
        for (int z : WRONG_ZONES) {
            refused(15, "within(" + z + ", 3)", 0, d -> one(d.within(z, 3)));
            refused(15, "within(2, " + z + ")", 0, d -> one(d.within(2, z)));
        }
    }

    private static void touches() {
        ZoneDesk desk = mixedDesk();
        due(16, "a point and fresh", desk.touches(1, 3), true);
        due(16, "fresh and a point", desk.touches(3, 1), true);
        due(16, "a point and empty", desk.touches(1, 2), false);
        due(16, "empty and itself", desk.touches(2, 2), false);
        due(16, "a point and itself", desk.touches(1, 1), true);
        desk.constrain(3, 4, 2);
        due(16, "x1 = 3 and x1 <= 2", desk.touches(1, 3), false);
        point(desk, 0, 2, 4, 6);
        due(16, "a point and where it comes later", desk.touches(0, 1), false);
        point(desk, 0, 9, 9, 9);
        desk.copy(1, 0);
        due(16, "the last point", desk.touches(0, 1), true);
        for (int z : WRONG_ZONES) {
            refused(16, "touches(" + z + ", 3)", 0, d -> one(d.touches(z, 3)));
            refused(16, "touches(3, " + z + ")", 0, d -> one(d.touches(3, z)));
        }
    }

    private static void least() {
        ZoneDesk desk = mixedDesk();
        due(17, "least of a point", desk.least(1), 753);
        due(17, "least of an empty zone", desk.least(2), NONE);
        due(17, "least of fresh", desk.least(3), 0);
        desk.constrain(3, 6, -2);
        due(17, "least with x1 <= x2 - 2", desk.least(3), 20);
        desk.constrain(3, 11, -3);
        due(17, "least with x2 <= x3 - 3", desk.least(3), 520);
        point(desk, 3, 9, 9, 9);
        due(17, "least of the last point", desk.least(3), 999);
        for (int z : WRONG_ZONES) {
            refused(17, "least(" + z + ")", BAD, d -> d.least(z));
        }
    }

    private static void spread() {
        ZoneDesk desk = mixedDesk();
        for (int pair : PAIRS) {
            boolean toZero = pair < 4 || pair % 4 == 0;
            due(18, "spread(1, " + pair + ")", desk.spread(1, pair), 1);
            due(18, "spread(2, " + pair + ")", desk.spread(2, pair), 0);
            due(18, "spread(3, " + pair + ")", desk.spread(3, pair), toZero ? 10 : 19);
        }
        desk.constrain(3, 6, 2);
        desk.constrain(3, 9, 1);
        due(18, "x1 - x2 from -1 to 2", desk.spread(3, 6), 4);
        due(18, "x2 - x1 from -2 to 1", desk.spread(3, 9), 4);
        point(desk, 0, 0, 0, 0);
        point(desk, 1, 9, 9, 9);
        due(18, "spread of the first point", desk.spread(0, 4), 1);
        due(18, "spread of the last point", desk.spread(1, 4), 1);
        for (int z : WRONG_ZONES) {
            refused(18, "spread(" + z + ", 1)", BAD, d -> d.spread(z, 1));
        }
        for (int pair : WRONG_PAIRS) {
            refused(18, "spread(0, " + pair + ")", BAD, d -> d.spread(0, pair));
        }
    }

    private static void meeting() {
        for (int d = 0; d <= 9; d++) {
            ZoneDesk desk = new ZoneDesk();
            point(desk, 0, 0, 0, 0);
            point(desk, 1, d, d, d);
            due(19, "000 and " + 111 * d, desk.meeting(0, 1), d);
            due(19, 111 * d + " and 000", desk.meeting(1, 0), d == 0 ? 0 : NONE);
        }
        ZoneDesk desk = mixedDesk();
        desk.constrain(3, 3, -9);
        due(19, "a point and x3 = 9", desk.meeting(1, 3), 2);
        due(19, "x3 = 9 and a point", desk.meeting(3, 1), NONE);
        due(19, "empty and another", desk.meeting(2, 1), NONE);
        due(19, "another and empty", desk.meeting(1, 2), NONE);
        due(19, "empty and itself", desk.meeting(2, 2), NONE);
        due(19, "a point and itself", desk.meeting(1, 1), 0);
        due(19, "count after meeting", desk.count(1), 1);
        due(19, "least after meeting", desk.least(1), 753);
        // In each of these the numbers differ by 111, but one of x1, x2, x3 would have to be 10.
        point(desk, 0, 9, 0, 0);
        point(desk, 1, 0, 2, 1);
        due(19, "009 and 120", desk.meeting(0, 1), NONE);
        point(desk, 0, 0, 9, 0);
        point(desk, 1, 1, 0, 2);
        due(19, "090 and 201", desk.meeting(0, 1), NONE);
        desk.fresh(2);
        point(desk, 0, 0, 0, 9);
        due(19, "900 and 201, with a fresh zone behind it", desk.meeting(0, 1), NONE);
        for (int z : WRONG_ZONES) {
            refused(19, "meeting(" + z + ", 3)", BAD, e -> e.meeting(z, 3));
            refused(19, "meeting(3, " + z + ")", BAD, e -> e.meeting(3, z));
        }
    }

    /** Zone 2 of the mixed desk is empty, so that both answers would fit. */
    private static void order() {
        for (int pair : WRONG_PAIRS) {
            refused(20, "bound(2, " + pair + ")", BAD, d -> d.bound(2, pair));
            refused(20, "spread(2, " + pair + ")", BAD, d -> d.spread(2, pair));
        }
        for (int z : WRONG_ZONES) {
            refused(20, "meeting(2, " + z + ")", BAD, d -> d.meeting(2, z));
            refused(20, "meeting(" + z + ", 2)", BAD, d -> d.meeting(z, 2));
            refused(20, "meeting(" + z + ", 9)", BAD, d -> d.meeting(z, 9));
            refused(20, "has(" + z + ", 1000)", 0, d -> one(d.has(z, 1000)));
            refused(20, "within(" + z + ", " + z + ")", 0, d -> one(d.within(z, z)));
            refused(20, "touches(" + z + ", " + z + ")", 0, d -> one(d.touches(z, z)));
        }
    }

    public static void main(String[] args) {
        due(20, "BAD_ARG", ZoneDesk.BAD_ARG, BAD);
        due(20, "NONE", ZoneDesk.NONE, NONE);
        newObject();
        fresh();
        copy();
        constrain();
        meet();
        hull();
        delay();
        past();
        reset();
        forget();
        empty();
        has();
        bound();
        count();
        within();
        touches();
        least();
        spread();
        meeting();
        order();
        System.out.println(wrong == 0 ? "all answers are as due" : wrong + " answers are not as due");
        if (wrong != 0) {
            System.exit(1);
        }
    }
}
