import java.util.List;

/** The boundary cases of promises 1 to 10, of the calls that make zones: a test for each sentence. */
public final class BoundaryChangesTest extends Sentences {
    private static final int[] WRONG_COORDINATES = {0, 4, -1, -2, 5, 256, 257, 65537, (1 << 30) + 1, MIN, MIN + 1, MAX};

    private interface Merge {
        Points of(Points a, Points b);
    }

    private static Points both(Points a, Points b) {
        return (x1, x2, x3) -> a.has(x1, x2, x3) && b.has(x1, x2, x3);
    }

    /** Moved by any number of steps of this sign; sign 1 is delay and sign -1 is past. */
    private static Points moved(Points from, int sign) {
        boolean[] reached = new boolean[1000];
        for (int p = 0; p < 1000; p++) {
            for (int d = 0; d <= 9 && has(from, p); d++) {
                int x1 = p % 10 + sign * d;
                int x2 = p / 10 % 10 + sign * d;
                int x3 = p / 100 + sign * d;
                if (Math.min(x1, Math.min(x2, x3)) >= 0 && Math.max(x1, Math.max(x2, x3)) <= 9) {
                    reached[x1 + 10 * x2 + 100 * x3] = true;
                }
            }
        }
        return (x1, x2, x3) -> reached[x1 + 10 * x2 + 100 * x3];
    }

    /** All points that differ from one of these at most in xi. */
    private static Points forgotten(Points from, int i) {
        return (x1, x2, x3) -> {
            boolean any = false;
            for (int x = 0; x <= 9; x++) {
                any = any || from.has(i == 1 ? x : x1, i == 2 ? x : x2, i == 3 ? x : x3);
            }
            return any;
        };
    }

    private static Points withCoordinate(Points from, int i, int c) {
        return (x1, x2, x3) -> (i == 1 ? x1 : i == 2 ? x2 : x3) == c && forgotten(from, i).has(x1, x2, x3);
    }

    /** Every two kinds of zone at every two places, the same place twice among them. */
    private static void everyTwo(String name, boolean answersZero, Merge merge) {
        for (Kind kindOfZ : KINDS) {
            for (Kind kindOfY : KINDS) {
                for (int k = 0; k < 16; k++) {
                    int z = k / 4;
                    int y = k % 4;
                    Points then = merge.of(kindOfZ.points(), z == y ? kindOfZ.points() : kindOfY.points());
                    int due = answersZero ? 0 : oneIfPoints(then);
                    becomes(state(z, kindOfZ, y, kindOfY), call(name, z, y), due, z, then);
                }
            }
        }
    }

    private static void refusesOtherZone(String name) {
        for (int y : WRONG_ZONES) {
            for (int z = 0; z < 4; z++) {
                refused(call(name, z, y), BAD);
            }
        }
    }

    private static void newObject() {
        zonesAre(List.of(), FULL.points(), FULL.points(), FULL.points(), FULL.points());
        for (int z = 0; z < 4; z++) {
            answers(List.of(), call("count", z), 1000);
            answers(List.of(), call("empty", z), 0);
        }
        ZoneDesk older = play(STATES[1].calls());
        ZoneDesk newer = new ZoneDesk();
        for (int z = 0; z < 4; z++) {
            if (older.count(z) != 0 || newer.count(z) != 1000) {
                fault(STATES[1].calls(), "a second object's zone " + z + " is not one of its own");
            }
        }
    }

    private static void freshFromAnything() {
        for (State state : STATES) {
            for (int z = 0; z < 4; z++) {
                becomes(state, call("fresh", z), 0, z, FULL.points());
            }
        }
    }

    private static void freshAnswersZero() {
        for (State state : STATES) {
            for (int z = 0; z < 4; z++) {
                answers(state, call("fresh", z), 0);
            }
        }
        for (int z : WRONG_ZONES) {
            refused(call("fresh", z), BAD);
        }
    }

    /** A copy is the zone as it was: what becomes of the one afterwards does not touch the other. */
    private static void copiesStayApart() {
        State state = state(0, BOUNDED, 3, MIDDLE);
        List<String> calls = with(state.calls(), "copy(0, 3)", "constrain(3, 4, -1)");
        zonesAre(calls, MIDDLE.points(), BOUNDED.points(), BOUNDED.points(), EMPTY.points());
        calls = with(state.calls(), "copy(0, 3)", "constrain(0, 4, -1)");
        zonesAre(calls, EMPTY.points(), BOUNDED.points(), BOUNDED.points(), MIDDLE.points());
    }

    private static void copyAnswersZero() {
        for (State state : STATES) {
            for (int k = 0; k < 16; k++) {
                answers(state, call("copy", k / 4, k % 4), 0);
            }
        }
    }

    private static void everyConstraint() {
        for (int z = 0; z < 4; z++) {
            for (int pair : PAIRS) {
                for (int c = -9; c <= 9; c++) {
                    int most = c;
                    Points kept = (x1, x2, x3) -> difference(pair, x1 + 10 * x2 + 100 * x3) <= most;
                    becomes(STATES[0], call("constrain", z, pair, c), oneIfPoints(kept), z, kept);
                }
            }
        }
        for (State state : STATES) {
            for (int z = 0; z < 4; z++) {
                Points kept = both(state.zones()[z], (x1, x2, x3) -> x1 - x2 <= -2);
                becomes(state, call("constrain", z, 6, -2), oneIfPoints(kept), z, kept);
            }
        }
    }

    private static void constrainRefusesPair() {
        for (int pair : WRONG_PAIRS) {
            refused(call("constrain", 0, pair, -9), BAD);
            refused(call("constrain", 3, pair, 9), BAD);
            refused(call("constrain", 1, pair, 10), BAD);
        }
    }

    private static void constrainRefusesBound() {
        for (int c : new int[] {-10, 10, -11, 11, 19, -19, 127, 256, -256, 65536, MIN, MIN + 1, MAX}) {
            for (int pair : PAIRS) {
                refused(call("constrain", pair % 4, pair, c), BAD);
            }
        }
    }

    private static void constrainAnswers() {
        for (int z = 0; z < 4; z++) {
            for (int pair : PAIRS) {
                answers(state(z, EMPTY, FULL), call("constrain", z, pair, 9), 0);
                answers(state(z, FULL, EMPTY), call("constrain", z, pair, 9), 1);
                answers(state(z, FULL, EMPTY), call("constrain", z, pair, -1), pair % 4 == 0 ? 0 : 1);
                answers(state(z, FIRST, FULL), call("constrain", z, pair, 0), 1);
                answers(state(z, FIRST, FULL), call("constrain", z, pair, -1), 0);
            }
            answers(state(z, LAST, EMPTY), call("constrain", z, 12, 9), 1);
            answers(state(z, LAST, EMPTY), call("constrain", z, 12, 8), 0);
            answers(state(z, LAST, EMPTY), call("constrain", z, 3, -9), 1);
        }
    }

    private static void meetAnswers() {
        Kind beside = point(3, 5, 8);
        answers(state(0, MIDDLE, 3, MIDDLE), "meet(0, 3)", 1);
        answers(state(0, MIDDLE, 3, beside), "meet(0, 3)", 0);
        answers(state(0, FULL, 3, FIRST), "meet(0, 3)", 1);
        answers(state(0, FULL, 3, LAST), "meet(0, 3)", 1);
        answers(state(0, FULL, 3, EMPTY), "meet(0, 3)", 0);
        answers(state(0, EMPTY, 3, FULL), "meet(0, 3)", 0);
        answers(state(0, FULL, EMPTY), "meet(0, 0)", 1);
        answers(state(0, EMPTY, FULL), "meet(0, 0)", 0);
    }

    private static void hullAnswers() {
        answers(state(0, EMPTY, 3, EMPTY), "hull(0, 3)", 0);
        answers(state(0, EMPTY, 3, FIRST), "hull(0, 3)", 1);
        answers(state(0, EMPTY, 3, LAST), "hull(0, 3)", 1);
        answers(state(0, FIRST, 3, EMPTY), "hull(0, 3)", 1);
        answers(state(0, LAST, 3, EMPTY), "hull(0, 3)", 1);
        answers(state(0, FULL, 3, FULL), "hull(0, 3)", 1);
        answers(state(0, EMPTY, FULL), "hull(0, 0)", 0);
        answers(state(0, LAST, EMPTY), "hull(0, 0)", 1);
    }

    private static void movesEveryKind(String name, int sign) {
        for (Kind kind : KINDS) {
            for (int z = 0; z < 4; z++) {
                for (Kind others : new Kind[] {EMPTY, BOUNDED}) {
                    Points then = moved(kind.points(), sign);
                    becomes(state(z, kind, others), call(name, z), oneIfPoints(then), z, then);
                }
            }
        }
        for (int i = 1; i <= 3; i++) {
            for (int c = 0; c <= 9; c++) {
                Points plane = withCoordinate(FULL.points(), i, c);
                State state = new State(List.of(call("reset", 2, i, c)), FULL.points(), FULL.points(), plane,
                    FULL.points());
                becomes(state, call(name, 2), 1, 2, moved(plane, sign));
            }
        }
    }

    /** Nothing can be moved from an empty zone, and everything stays that is already there. */
    private static void moveAnswers(String name) {
        for (int z = 0; z < 4; z++) {
            answers(state(z, EMPTY, FULL), call(name, z), 0);
            answers(state(z, FULL, EMPTY), call(name, z), 1);
            answers(state(z, FIRST, EMPTY), call(name, z), 1);
            answers(state(z, LAST, EMPTY), call(name, z), 1);
            answers(state(z, point(0, 9, 0), EMPTY), call(name, z), 1);
        }
        for (int z : WRONG_ZONES) {
            refused(call(name, z), BAD);
        }
    }

    private static void everyReset() {
        for (Kind kind : KINDS) {
            for (int i = 1; i <= 3; i++) {
                for (int c = 0; c <= 9; c++) {
                    int z = (i + c) % 4;
                    Points then = withCoordinate(kind.points(), i, c);
                    becomes(state(z, kind, BOUNDED), call("reset", z, i, c), oneIfPoints(then), z, then);
                }
            }
        }
    }

    private static void resetRefusesCoordinate() {
        for (int i : WRONG_COORDINATES) {
            for (int z = 0; z < 4; z++) {
                refused(call("reset", z, i, 0), BAD);
                refused(call("reset", z, i, 9), BAD);
                refused(call("reset", z, i, 10), BAD);
            }
        }
    }

    private static void resetRefusesValue() {
        for (int c : new int[] {-1, 10, -9, 11, 99, 100, 256, -256, 65536, MIN, MIN + 1, MAX}) {
            for (int i = 1; i <= 3; i++) {
                for (int z = 0; z < 4; z++) {
                    refused(call("reset", z, i, c), BAD);
                }
            }
        }
    }

    private static void resetAnswers() {
        for (int z = 0; z < 4; z++) {
            for (int i = 1; i <= 3; i++) {
                for (int c = 0; c <= 9; c++) {
                    answers(state(z, EMPTY, FULL), call("reset", z, i, c), 0);
                    answers(state(z, FULL, EMPTY), call("reset", z, i, c), 1);
                    answers(state(z, FIRST, EMPTY), call("reset", z, i, c), 1);
                    answers(state(z, LAST, EMPTY), call("reset", z, i, c), 1);
                }
            }
        }
    }

    private static void everyForget() {
        for (Kind kind : KINDS) {
            for (int i = 1; i <= 3; i++) {
                for (int z = 0; z < 4; z++) {
                    Points then = forgotten(kind.points(), i);
                    becomes(state(z, kind, BOUNDED), call("forget", z, i), oneIfPoints(then), z, then);
                    becomes(state(z, kind, EMPTY), call("forget", z, i), oneIfPoints(then), z, then);
                }
            }
        }
    }

    private static void forgetRefusesCoordinate() {
        for (int i : WRONG_COORDINATES) {
            for (int z = 0; z < 4; z++) {
                refused(call("forget", z, i), BAD);
            }
        }
    }

    private static void forgetAnswers() {
        for (int z = 0; z < 4; z++) {
            for (int i = 1; i <= 3; i++) {
                answers(state(z, EMPTY, FULL), call("forget", z, i), 0);
                answers(state(z, FULL, EMPTY), call("forget", z, i), 1);
                answers(state(z, FIRST, EMPTY), call("forget", z, i), 1);
                answers(state(z, LAST, EMPTY), call("forget", z, i), 1);
            }
        }
    }

    public static void main(String[] args) {
        sentence("1: All four zones are fresh", BoundaryChangesTest::newObject);
        sentence("2: Zone z becomes fresh", BoundaryChangesTest::freshFromAnything);
        sentence("2: Answers 0", BoundaryChangesTest::freshAnswersZero);
        sentence("3: Zone z becomes what zone y is", () -> {
            everyTwo("copy", true, (a, b) -> b);
            copiesStayApart();
        });
        sentence("3: BAD_ARG if y is not 0 to 3", () -> refusesOtherZone("copy"));
        sentence("3: Otherwise 0", BoundaryChangesTest::copyAnswersZero);
        sentence("4: Puts the constraint i j c on zone z, with pair = 4 i + j", BoundaryChangesTest::everyConstraint);
        sentence("4: BAD_ARG if pair is not such a number (with i and j different)",
            BoundaryChangesTest::constrainRefusesPair);
        sentence("4: or c is not -9 to 9", BoundaryChangesTest::constrainRefusesBound);
        sentence("4: Otherwise 1 if the zone has a point afterwards, else 0", BoundaryChangesTest::constrainAnswers);
        sentence("5: Meets zone z with zone y", () -> everyTwo("meet", false, BoundaryChangesTest::both));
        sentence("5: BAD_ARG if y is not 0 to 3", () -> refusesOtherZone("meet"));
        sentence("5: Otherwise 1 if it has a point afterwards, else 0", BoundaryChangesTest::meetAnswers);
        sentence("6: Zone z becomes its hull with zone y", () -> everyTwo("hull", false, Sentences::hullOf));
        sentence("6: BAD_ARG if y is not 0 to 3", () -> refusesOtherZone("hull"));
        sentence("6: Otherwise 1 if it has a point afterwards, else 0", BoundaryChangesTest::hullAnswers);
        sentence("7: Delay", () -> movesEveryKind("delay", 1));
        sentence("7: Answers 1 if the zone has a point, else 0", () -> moveAnswers("delay"));
        sentence("8: Past", () -> movesEveryKind("past", -1));
        sentence("8: Answers 1 if the zone has a point, else 0", () -> moveAnswers("past"));
        sentence("9: Reset i c", BoundaryChangesTest::everyReset);
        sentence("9: BAD_ARG if i is not 1 to 3", BoundaryChangesTest::resetRefusesCoordinate);
        sentence("9: or c not 0 to 9", BoundaryChangesTest::resetRefusesValue);
        sentence("9: Otherwise 1 if the zone has a point, else 0", BoundaryChangesTest::resetAnswers);
        sentence("10: Forget i", BoundaryChangesTest::everyForget);
        sentence("10: BAD_ARG if i is not 1 to 3", BoundaryChangesTest::forgetRefusesCoordinate);
        sentence("10: Otherwise 1 if the zone has a point, else 0", BoundaryChangesTest::forgetAnswers);
        end();
    }
}
