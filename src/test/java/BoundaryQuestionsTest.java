import java.util.List;

/** The boundary cases of promises 11 to 20, of the calls that only answer: a test for each sentence. */
public final class BoundaryQuestionsTest extends Sentences {
    private static final Kind[] OTHERS = {FULL, EMPTY};

    private interface Due {
        int of(Points points);
    }

    private interface DueOfTwo {
        int of(Points a, Points b);
    }

    /** Every kind of zone at every place, among full zones and among empty ones. */
    private static void everyOne(String name, Due due) {
        for (Kind kind : KINDS) {
            for (int z = 0; z < 4; z++) {
                for (Kind others : OTHERS) {
                    answers(state(z, kind, others), call(name, z), due.of(kind.points()));
                }
            }
        }
    }

    /** Every two kinds of zone at every two places, the same place twice among them. */
    private static void everyTwo(String name, DueOfTwo due) {
        for (Kind kindOfZ : KINDS) {
            for (Kind kindOfY : KINDS) {
                for (int k = 0; k < 16; k++) {
                    int z = k / 4;
                    int y = k % 4;
                    Points other = z == y ? kindOfZ.points() : kindOfY.points();
                    answers(state(z, kindOfZ, y, kindOfY), call(name, z, y), due.of(kindOfZ.points(), other));
                }
            }
        }
    }

    private static void everyPair(String name, Kind kind, int z, Kind others, int due) {
        for (int pair : PAIRS) {
            answers(state(z, kind, others), call(name, z, pair), due);
        }
    }

    private static void refusesPair(String name) {
        for (int pair : WRONG_PAIRS) {
            for (int z = 0; z < 4; z++) {
                refused(call(name, z, pair), BAD);
            }
        }
    }

    private static void refusesOtherZone(String name, int code) {
        for (int y : WRONG_ZONES) {
            for (int z = 0; z < 4; z++) {
                refused(call(name, z, y), code);
            }
        }
    }

    private static void refusesZone(String name, int code) {
        for (int z : WRONG_ZONES) {
            refused(call(name, z), code);
        }
    }

    private static int least(Points points) {
        for (int p = 0; p < 1000; p++) {
            if (has(points, p)) {
                return p;
            }
        }
        return NONE;
    }

    private static int greatestDifference(Points points, int pair) {
        int greatest = NONE;
        for (int p = 0; p < 1000; p++) {
            if (has(points, p)) {
                greatest = Math.max(greatest, difference(pair, p));
            }
        }
        return greatest;
    }

    private static int differences(Points points, int pair) {
        int found = 0;
        for (int d = -9; d <= 9; d++) {
            boolean any = false;
            for (int p = 0; p < 1000; p++) {
                any = any || has(points, p) && difference(pair, p) == d;
            }
            found += any ? 1 : 0;
        }
        return found;
    }

    private static int within(Points a, Points b) {
        for (int p = 0; p < 1000; p++) {
            if (has(a, p) && !has(b, p)) {
                return 0;
            }
        }
        return 1;
    }

    private static int touches(Points a, Points b) {
        for (int p = 0; p < 1000; p++) {
            if (has(a, p) && has(b, p)) {
                return 1;
            }
        }
        return 0;
    }

    private static int meeting(Points a, Points b) {
        for (int d = 0; d <= 9; d++) {
            for (int p = 0; p < 1000; p++) {
                int x1 = p % 10 + d;
                int x2 = p / 10 % 10 + d;
                int x3 = p / 100 + d;
                if (has(a, p) && Math.max(x1, Math.max(x2, x3)) <= 9 && b.has(x1, x2, x3)) {
                    return d;
                }
            }
        }
        return NONE;
    }

    private static void emptyOfEveryKind() {
        everyOne("empty", points -> size(points) == 0 ? 1 : 0);
        for (int p : CORNERS) {
            everyOneOfPoint("empty", p, 0);
        }
        refusesZone("empty", 0);
    }

    private static void everyOneOfPoint(String name, int p, int due) {
        for (int z = 0; z < 4; z++) {
            for (Kind others : OTHERS) {
                answers(state(z, point(p), others), call(name, z), due);
            }
        }
    }

    /** Each point by itself in an otherwise empty object, so that no other number may be answered with true. */
    private static void hasEveryPoint() {
        for (int p = 0; p < 1000; p++) {
            State state = state(p % 4, point(p), EMPTY);
            zonesAre(state.calls(), state.zones());
        }
        for (State state : STATES) {
            zonesAre(state.calls(), state.zones());
        }
    }

    /** The first state's zones are all full, so that a neighbour's points would be seen. */
    private static void hasNoOtherPoint() {
        int[] numbers = {
            -1, 1000, 1001, -2, -999, -1000, -1001, 1999, 2000, 2999, 3000, 3999, 4000, 65536, -65536, 1 << 30,
            -(1 << 30), MIN, MIN + 1, MIN + 999, MAX - 999, MAX - 1, MAX,
        };
        for (int number : numbers) {
            for (int z = 0; z < 4; z++) {
                refused(call("has", z, number), 0);
            }
        }
        for (int z = 0; z < 4; z++) {
            answers(STATES[0], call("has", z, 0), 1);
            answers(STATES[0], call("has", z, 999), 1);
        }
    }

    private static void boundOfEveryKind() {
        for (Kind kind : KINDS) {
            for (int pair : PAIRS) {
                for (int z = 0; z < 4; z++) {
                    int due = greatestDifference(kind.points(), pair);
                    answers(state(z, kind, FULL), call("bound", z, pair), due);
                    answers(state(z, kind, EMPTY), call("bound", z, pair), due);
                }
            }
        }
        for (int p : CORNERS) {
            for (int pair : PAIRS) {
                answers(state(p % 4, point(p), FULL), call("bound", p % 4, pair), difference(pair, p));
            }
        }
        for (int i = 1; i <= 3; i++) {
            answers(STATES[0], call("bound", 0, 4 * i), 9);
            answers(STATES[0], call("bound", 0, i), 0);
        }
    }

    private static void boundOfEmpty() {
        for (int z = 0; z < 4; z++) {
            everyPair("bound", EMPTY, z, FULL, NONE);
            everyPair("bound", EMPTY, z, EMPTY, NONE);
        }
    }

    /** From no point to all of them, one plane x1 = c more at each step. */
    private static void countOfEverySize() {
        everyOne("count", Sentences::size);
        for (int z = 0; z < 4; z++) {
            for (int c = -1; c <= 9; c++) {
                answers(List.of(call("constrain", z, 4, c)), call("count", z), 100 * (c + 1));
            }
            for (int c = -9; c <= 0; c++) {
                answers(List.of(call("constrain", z, 3, c)), call("count", z), 100 * (10 + c));
            }
        }
        for (int p : CORNERS) {
            everyOneOfPoint("count", p, 1);
        }
        refusesZone("count", BAD);
    }

    /** Zones of which the one has a single point more than the other, that point being an outermost one. */
    private static void withinEveryTwo() {
        everyTwo("within", BoundaryQuestionsTest::within);
        for (int p : CORNERS) {
            answers(state(0, point(p), 3, FULL), "within(0, 3)", 1);
            answers(state(0, FULL, 3, point(p)), "within(0, 3)", 0);
            for (int q : CORNERS) {
                answers(state(0, point(p), 3, point(q)), "within(0, 3)", p == q ? 1 : 0);
            }
        }
        Kind line = new Kind("x1 = x2 = 9", (a, b, c) -> a == 9 && b == 9, "reset(z, 1, 9)", "reset(z, 2, 9)");
        Kind shorter = new Kind("without its end", (a, b, c) -> a == 9 && b == 9 && c <= 8,
            "reset(z, 1, 9)", "reset(z, 2, 9)", "constrain(z, 12, 8)");
        answers(state(1, line, 2, shorter), "within(1, 2)", 0);
        answers(state(1, shorter, 2, line), "within(1, 2)", 1);
    }

    private static void touchesEveryTwo() {
        everyTwo("touches", BoundaryQuestionsTest::touches);
        for (int p : CORNERS) {
            answers(state(0, point(p), 3, FULL), "touches(0, 3)", 1);
            answers(state(0, FULL, 3, point(p)), "touches(0, 3)", 1);
            for (int q : CORNERS) {
                answers(state(0, point(p), 3, point(q)), "touches(0, 3)", p == q ? 1 : 0);
            }
        }
        for (int c = 0; c <= 8; c++) {
            List<String> split = List.of(call("constrain", 0, 4, c), call("constrain", 1, 1, -c - 1));
            answers(split, "touches(0, 1)", 0);
            List<String> shared = List.of(call("constrain", 0, 4, c), call("constrain", 1, 1, -c));
            answers(shared, "touches(0, 1)", 1);
        }
    }

    private static void leastOfEveryPoint() {
        everyOne("least", BoundaryQuestionsTest::least);
        for (int p = 0; p < 1000; p++) {
            answers(state(p % 4, point(p), FULL), call("least", p % 4), p);
        }
        refusesZone("least", BAD);
    }

    private static void leastOfEmpty() {
        for (int z = 0; z < 4; z++) {
            answers(state(z, EMPTY, FULL), call("least", z), NONE);
            answers(state(z, EMPTY, EMPTY), call("least", z), NONE);
            answers(state(z, FIRST, EMPTY), call("least", z), 0);
        }
    }

    /** From one value to all of them: 10 if x0 is one of the two, else 19. */
    private static void spreadOfEverySize() {
        for (Kind kind : KINDS) {
            for (int pair : PAIRS) {
                for (int z = 0; z < 4; z++) {
                    int due = differences(kind.points(), pair);
                    answers(state(z, kind, FULL), call("spread", z, pair), due);
                    answers(state(z, kind, EMPTY), call("spread", z, pair), due);
                }
            }
        }
        for (int pair : PAIRS) {
            int least = pair % 4 == 0 ? 0 : -9;
            int greatest = pair < 4 ? 0 : 9;
            answers(STATES[0], call("spread", 3, pair), greatest - least + 1);
            for (int c = least; c <= greatest; c++) {
                answers(List.of(call("constrain", 3, pair, c)), call("spread", 3, pair), c - least + 1);
            }
        }
    }

    private static void spreadOfEmpty() {
        for (int z = 0; z < 4; z++) {
            everyPair("spread", EMPTY, z, FULL, 0);
            everyPair("spread", EMPTY, z, EMPTY, 0);
            everyPair("spread", FIRST, z, EMPTY, 1);
        }
    }

    /** A point and what comes of it later; in the other direction it never meets. */
    private static void meetingOfEveryDistance() {
        everyTwo("meeting", BoundaryQuestionsTest::meeting);
        for (int d = 0; d <= 9; d++) {
            for (int p : new int[] {0, 1, 10, 100, 12, 210}) {
                if (p % 10 + d <= 9 && p / 10 % 10 + d <= 9 && p / 100 + d <= 9) {
                    answers(state(2, point(p), 1, point(p + 111 * d)), "meeting(2, 1)", d);
                    answers(state(2, point(p + 111 * d), 1, point(p)), "meeting(2, 1)", d == 0 ? 0 : NONE);
                }
            }
        }
    }

    /** With more than one d that would do, the least is due. */
    private static void leastMeeting() {
        for (int c = 0; c <= 9; c++) {
            List<String> from = List.of("reset(0, 1, 0)", call("constrain", 1, 1, -c));
            answers(from, "meeting(0, 1)", c);
            answers(from, "meeting(1, 0)", c == 0 ? 0 : NONE);
            answers(with(from, "delay(0)"), "meeting(0, 1)", 0);
        }
    }

    private static void noMeeting() {
        for (Kind kind : KINDS) {
            answers(state(0, EMPTY, 3, kind), "meeting(0, 3)", NONE);
            answers(state(0, kind, 3, EMPTY), "meeting(0, 3)", NONE);
        }
        answers(STATES[1], "meeting(2, 2)", NONE);
        // The numbers of these lie 111 or 888 apart, but x1, x2 or x3 would have to be 10 or more.
        answers(state(0, point(9), 1, point(120)), "meeting(0, 1)", NONE);
        answers(state(0, point(90), 1, point(201)), "meeting(0, 1)", NONE);
        answers(state(0, point(19), 1, point(907)), "meeting(0, 1)", NONE);
        // The zone behind the one asked about is full, and must not be taken for it.
        for (int p : new int[] {900, 909, 990, 999}) {
            answers(state(point(p), FIRST, FULL, FULL), "meeting(0, 1)", NONE);
            answers(state(FIRST, FULL, point(p), FULL), "meeting(2, 0)", NONE);
            answers(state(EMPTY, EMPTY, FIRST, point(p)), "meeting(3, 2)", NONE);
        }
    }

    private static void badBeforeNone() {
        State state = STATES[1];
        for (int z = 0; z < 4; z++) {
            for (int pair : WRONG_PAIRS) {
                refused(state, call("bound", z, pair), BAD);
            }
            for (int y : WRONG_ZONES) {
                refused(state, call("meeting", z, y), BAD);
                refused(state, call("meeting", y, z), BAD);
                refused(state, call("meeting", y, y), BAD);
            }
            answers(state, call("bound", z, 4), NONE);
            answers(state, call("meeting", z, 3 - z), NONE);
        }
    }

    private static void badBeforeZero() {
        State state = STATES[1];
        for (int z = 0; z < 4; z++) {
            for (int pair : WRONG_PAIRS) {
                refused(state, call("spread", z, pair), BAD);
            }
            answers(state, call("spread", z, 4), 0);
        }
    }

    public static void main(String[] args) {
        sentence("11: Whether zone z is empty", BoundaryQuestionsTest::emptyOfEveryKind);
        sentence("12: Whether zone z has the point with the number x1 + 10 x2 + 100 x3",
            BoundaryQuestionsTest::hasEveryPoint);
        sentence("12: false if it is not 0 to 999", BoundaryQuestionsTest::hasNoOtherPoint);
        sentence("13: The greatest value of xi - xj of a point of zone z, with pair = 4 i + j",
            BoundaryQuestionsTest::boundOfEveryKind);
        sentence("13: NONE if it is empty", BoundaryQuestionsTest::boundOfEmpty);
        sentence("13: BAD_ARG if pair is not such a number (with i and j different)", () -> refusesPair("bound"));
        sentence("14: The number of points of zone z", BoundaryQuestionsTest::countOfEverySize);
        sentence("15: Whether every point of zone z is one of zone y", BoundaryQuestionsTest::withinEveryTwo);
        sentence("15: false if y is not 0 to 3", () -> refusesOtherZone("within", 0));
        sentence("16: Whether some point is in both zones", BoundaryQuestionsTest::touchesEveryTwo);
        sentence("16: false if y is not 0 to 3", () -> refusesOtherZone("touches", 0));
        sentence("17: The least number of a point of zone z", BoundaryQuestionsTest::leastOfEveryPoint);
        sentence("17: NONE if it is empty", BoundaryQuestionsTest::leastOfEmpty);
        sentence("18: How many of the values that xi - xj can have in zone z, from the least to the greatest, it has",
            BoundaryQuestionsTest::spreadOfEverySize);
        sentence("18: 0 if the zone is empty", BoundaryQuestionsTest::spreadOfEmpty);
        sentence("18: BAD_ARG if pair = 4 i + j is not such a number (with i and j different)",
            () -> refusesPair("spread"));
        sentence("19: The least d, 0 or more, such that zone z moved by d (d added to x1, x2 and x3 of all its points)"
            + " has a point in common with zone y", () -> {
                meetingOfEveryDistance();
                leastMeeting();
            });
        sentence("19: NONE if there is none", BoundaryQuestionsTest::noMeeting);
        sentence("19: BAD_ARG if y is not 0 to 3", () -> refusesOtherZone("meeting", BAD));
        sentence("20: bound and meeting: BAD_ARG is tested before NONE", BoundaryQuestionsTest::badBeforeNone);
        sentence("20: spread: BAD_ARG before 0", BoundaryQuestionsTest::badBeforeZero);
        end();
    }
}
