import java.util.ArrayList;
import java.util.List;

/** The boundary cases of the document's head and of its "Terms", a test for each sentence. */
public final class BoundaryTermsTest extends Sentences {
    private static final String[] ONE_ZONE = {"fresh", "delay", "past", "empty", "count", "least"};
    private static final String[] TWO_ZONES = {"copy", "meet", "hull", "within", "touches", "meeting"};
    private static final String[] ZONE_AND_PAIR = {"bound", "spread"};

    private static int codeOf(String name) {
        return List.of("empty", "has", "within", "touches").contains(name) ? 0 : BAD;
    }

    /** Played to the last call that is promised, every answer is looked at. */
    private static void last(List<String> round, int... due) {
        ZoneDesk desk = new ZoneDesk();
        for (int k = 0; k < 512; k++) {
            String call = round.get(k % round.size());
            int got = answer(desk, call);
            if (got != due[k % due.length]) {
                fault(List.of("call " + k), call + " answered " + got + ", due is " + due[k % due.length]);
            }
        }
    }

    private static void fiveHundredAndTwelveCalls() {
        last(List.of("count(3)"), 1000);
        last(List.of("fresh(4)", "least(0)"), BAD, 0);
        last(List.of("fresh(0)", "constrain(0, 4, -1)", "count(0)", "least(0)"), 0, 0, 0, NONE);
        last(List.of("fresh(1)", "reset(1, 1, 9)", "forget(1, 2)", "delay(1)", "past(1)", "count(1)", "copy(2, 1)",
            "hull(2, 1)", "meet(2, 1)", "bound(2, 8)", "spread(2, 1)", "meeting(1, 2)", "within(1, 2)",
            "touches(2, 1)", "empty(2)", "has(2, 999)"),
            0, 1, 1, 1, 1, 385, 0, 1, 1, 9, 10, 0, 1, 1, 0, 1);
    }

    private static void pointsFromZeroToNine() {
        for (int z = 0; z < 4; z++) {
            for (int x = 0; x <= 9; x++) {
                for (int i = 1; i <= 3; i++) {
                    answers(STATES[0], call("reset", z, i, x), 1);
                }
                answers(STATES[0], call("has", z, 111 * x), 1);
            }
            for (int i = 1; i <= 3; i++) {
                answers(STATES[0], call("bound", z, 4 * i), 9);
                answers(STATES[0], call("bound", z, i), 0);
                refused(STATES[0], call("reset", z, i, -1), BAD);
                refused(STATES[0], call("reset", z, i, 10), BAD);
            }
            answers(STATES[0], call("has", z, 1000), 0);
            answers(STATES[0], call("has", z, -1), 0);
        }
    }

    private static void xZeroIsZero() {
        for (int p = 0; p < 1000; p++) {
            State state = state(p % 4, point(p), EMPTY);
            int[] x = {0, p % 10, p / 10 % 10, p / 100};
            for (int i = 1; i <= 3; i++) {
                answers(state, call("bound", p % 4, 4 * i), x[i]);
                answers(state, call("bound", p % 4, i), -x[i]);
            }
        }
        for (int i = 1; i <= 3; i++) {
            answers(STATES[0], call("constrain", 0, 4 * i, 0), 1);
            answers(STATES[0], call("constrain", 0, 4 * i, -1), 0);
            answers(STATES[0], call("constrain", 0, i, -9), 1);
        }
        refused("reset(0, 0, 5)", BAD);
        refused("forget(0, 0)", BAD);
    }

    private static void fourZones() {
        for (int z = 0; z < 4; z++) {
            becomes(STATES[0], call("constrain", z, 4, -1), 0, z, EMPTY.points());
            becomes(STATES[1], call("fresh", z), 0, z, FULL.points());
        }
        refused("fresh(-1)", BAD);
        refused("fresh(4)", BAD);
        refused("constrain(-1, 4, -1)", BAD);
        refused("constrain(4, 4, -1)", BAD);
    }

    private static void constraintEnds() {
        for (int pair = 0; pair < 16; pair++) {
            for (int c : new int[] {-10, -9, 9, 10}) {
                int number = pair;
                Points kept = (x1, x2, x3) -> difference(number, x1 + 10 * x2 + 100 * x3) <= c;
                String text = call("constrain", 1, pair, c);
                if (pair / 4 == pair % 4 || c < -9 || c > 9) {
                    refused(STATES[0], text, BAD);
                } else {
                    becomes(STATES[0], text, oneIfPoints(kept), 1, kept);
                }
            }
        }
    }

    private static void emptyWithoutPoint() {
        for (int z = 0; z < 4; z++) {
            for (Kind kind : KINDS) {
                for (Kind others : new Kind[] {FULL, EMPTY}) {
                    State state = state(z, kind, others);
                    answers(state, call("empty", z), kind == EMPTY ? 1 : 0);
                    answers(state, call("count", z), size(kind.points()));
                }
            }
            List<String> last = with(state(z, LAST, FULL).calls(), call("constrain", z, 4, 8));
            answers(last, call("empty", z), 1);
        }
    }

    private static List<String> questions() {
        List<String> all = new ArrayList<>();
        for (int z = 0; z < 4; z++) {
            all.add(call("empty", z));
            all.add(call("count", z));
            all.add(call("least", z));
            for (int point : new int[] {0, 753, 999}) {
                all.add(call("has", z, point));
            }
            for (int pair : PAIRS) {
                all.add(call("bound", z, pair));
                all.add(call("spread", z, pair));
            }
            for (int y = 0; y < 4; y++) {
                all.add(call("within", z, y));
                all.add(call("touches", z, y));
                all.add(call("meeting", z, y));
            }
        }
        return all;
    }

    private static void questionsMakeNothing() {
        List<String> questions = questions();
        for (State state : STATES) {
            zonesAre(with(state.calls(), questions.toArray(new String[0])), state.zones());
            for (String question : questions) {
                if (question.startsWith("meeting") || question.startsWith("spread")) {
                    zonesAre(with(state.calls(), question), state.zones());
                }
            }
        }
    }

    private static void freshHasAllPoints() {
        for (int z = 0; z < 4; z++) {
            for (Kind kind : KINDS) {
                becomes(state(z, kind, BOUNDED), call("fresh", z), 0, z, FULL.points());
            }
            answers(with(STATES[1].calls(), call("fresh", z)), call("count", z), 1000);
        }
    }

    /** A point with the difference c meets the constraint, and one with c + 1 does not. */
    private static void pointsThatDoNotMeetItGo() {
        for (int p : new int[] {0, 9, 90, 99, 357, 753, 900, 909, 990, 999}) {
            for (int pair : PAIRS) {
                int d = difference(pair, p);
                State state = state(2, point(p), FULL);
                becomes(state, call("constrain", 2, pair, d), 1, 2, point(p).points());
                if (d > -9) {
                    becomes(state, call("constrain", 2, pair, d - 1), 0, 2, EMPTY.points());
                }
            }
        }
    }

    private static void pointsOfBothStay() {
        Kind low = new Kind("x3 <= 4", (a, b, c) -> c <= 4, "constrain(z, 12, 4)");
        Kind high = new Kind("x3 >= 4", (a, b, c) -> c >= 4, "constrain(z, 3, -4)");
        Kind higher = new Kind("x3 >= 5", (a, b, c) -> c >= 5, "constrain(z, 3, -5)");
        becomes(state(0, low, 3, high), "meet(0, 3)", 1, 0, (a, b, c) -> c == 4);
        becomes(state(0, low, 3, higher), "meet(0, 3)", 0, 0, EMPTY.points());
        becomes(state(3, high, 0, low), "meet(3, 0)", 1, 3, (a, b, c) -> c == 4);
        becomes(state(3, low, 0, FULL), "meet(3, 0)", 1, 3, low.points());
        becomes(state(3, FULL, 0, low), "meet(3, 0)", 1, 3, low.points());
        becomes(state(3, low, 0, EMPTY), "meet(3, 0)", 0, 3, EMPTY.points());
    }

    /** Each single point, moved by every number; outside 0 to 9 nothing comes of it, and nothing wraps around. */
    private static void moves(String name, int sign) {
        for (int p = 0; p < 1000; p++) {
            int[] x = {p % 10, p / 10 % 10, p / 100};
            State state = state(p % 4, point(p), EMPTY);
            becomes(state, call(name, p % 4), 1, p % 4, (a, b, c) ->
                a - x[0] == b - x[1] && b - x[1] == c - x[2] && sign * (a - x[0]) >= 0);
        }
    }

    private static void resets() {
        for (int c = 0; c <= 9; c++) {
            int to = c;
            becomes(STATES[0], call("reset", 0, 1, c), 1, 0, (x1, x2, x3) -> x1 == to);
            becomes(STATES[0], call("reset", 1, 2, c), 1, 1, (x1, x2, x3) -> x2 == to);
            becomes(STATES[0], call("reset", 3, 3, c), 1, 3, (x1, x2, x3) -> x3 == to);
            for (int p : new int[] {0, 9, 90, 900, 753, 999}) {
                State state = state(2, point(p), EMPTY);
                becomes(state, call("reset", 2, 1, c), 1, 2, point(p - p % 10 + c).points());
                becomes(state, call("reset", 2, 2, c), 1, 2, point(p / 100 * 100 + 10 * c + p % 10).points());
                becomes(state, call("reset", 2, 3, c), 1, 2, point(p % 100 + 100 * c).points());
            }
        }
    }

    private static void forgets() {
        for (int p : new int[] {0, 9, 90, 900, 753, 999}) {
            int x1 = p % 10;
            int x2 = p / 10 % 10;
            int x3 = p / 100;
            State state = state(1, point(p), EMPTY);
            becomes(state, "forget(1, 1)", 1, 1, (a, b, c) -> b == x2 && c == x3);
            becomes(state, "forget(1, 2)", 1, 1, (a, b, c) -> a == x1 && c == x3);
            becomes(state, "forget(1, 3)", 1, 1, (a, b, c) -> a == x1 && b == x2);
        }
        for (int i = 1; i <= 3; i++) {
            becomes(STATES[0], call("forget", 3, i), 1, 3, FULL.points());
            becomes(STATES[1], call("forget", 3, i), 0, 3, EMPTY.points());
        }
    }

    private static void leastHull() {
        becomes(state(0, FIRST, 1, LAST), "hull(0, 1)", 1, 0, (a, b, c) -> a == b && b == c);
        becomes(state(0, LAST, 1, FIRST), "hull(0, 1)", 1, 0, (a, b, c) -> a == b && b == c);
        becomes(state(2, point(9, 0, 0), 3, point(0, 9, 0)), "hull(2, 3)", 1, 2, (a, b, c) -> c == 0);
        becomes(state(2, point(4, 9, 9), 3, point(6, 9, 9)), "hull(2, 3)", 1, 2,
            (a, b, c) -> a >= 4 && a <= 6 && b == 9 && c == 9);
        becomes(state(1, MIDDLE, 2, EMPTY), "hull(1, 2)", 1, 1, MIDDLE.points());
        becomes(state(1, EMPTY, 2, MIDDLE), "hull(1, 2)", 1, 1, MIDDLE.points());
        becomes(state(1, EMPTY, 2, EMPTY), "hull(1, 2)", 0, 1, EMPTY.points());
        becomes(state(1, FULL, 2, MIDDLE), "hull(1, 2)", 1, 1, FULL.points());
        for (int p : CORNERS) {
            for (int q = 0; q < 1000; q += 37) {
                Points then = hullOf(point(p).points(), point(q).points());
                becomes(state(1, point(p), 2, point(q)), "hull(1, 2)", 1, 1, then);
            }
        }
    }

    /** Each call with a wrong zone, once with the other arguments right and then with all of them wrong. */
    private static void wrongZoneComesFirst() {
        for (int z : WRONG_ZONES) {
            for (String name : ONE_ZONE) {
                refused(call(name, z), codeOf(name));
            }
            for (String name : TWO_ZONES) {
                refused(call(name, z, 3), codeOf(name));
                refused(call(name, z, z), codeOf(name));
            }
            for (String name : ZONE_AND_PAIR) {
                refused(call(name, z, 4), codeOf(name));
                refused(call(name, z, 5), codeOf(name));
            }
            refused(call("constrain", z, 4, -1), BAD);
            refused(call("constrain", z, 5, 10), BAD);
            refused(call("reset", z, 1, 0), BAD);
            refused(call("reset", z, 4, 10), BAD);
            refused(call("forget", z, 1), BAD);
            refused(call("forget", z, 4), BAD);
            refused(call("has", z, 0), 0);
            refused(call("has", z, 1000), 0);
        }
    }

    /** Every call with every choice of these numbers, in every state. */
    private static void nothingThrows() {
        int[] numbers = {
            MIN, MIN + 1, -(1 << 29), -65536, -1000, -257, -112, -111, -10, -9, -1, 0, 1, 2, 3, 4, 6, 9, 10, 15, 16,
            111, 255, 888, 999, 1000, 3999, 4000, 65536, 1 << 29, MAX - 999, MAX - 1, MAX,
        };
        List<String> calls = new ArrayList<>();
        for (int a : numbers) {
            for (String name : ONE_ZONE) {
                calls.add(call(name, a));
            }
            for (int b : numbers) {
                for (String name : TWO_ZONES) {
                    calls.add(call(name, a, b));
                }
                calls.add(call("has", a, b));
                calls.add(call("bound", a, b));
                calls.add(call("spread", a, b));
                calls.add(call("forget", a, b));
                for (int c : numbers) {
                    calls.add(call("constrain", a, b, c));
                    calls.add(call("reset", a, b, c));
                }
            }
        }
        for (State state : STATES) {
            doNotThrow(state, calls);
        }
    }

    /** A new object after each 400 calls, for what an object does after its 512th one is free. */
    private static void doNotThrow(State state, List<String> calls) {
        ZoneDesk desk = play(state.calls());
        for (int k = 0; k < calls.size(); k++) {
            if (k % 400 == 0) {
                desk = play(state.calls());
            }
            try {
                answer(desk, calls.get(k));
            } catch (RuntimeException | Error e) {
                fault(state.calls(), "and some calls more " + calls.get(k) + " threw " + e);
            }
        }
    }

    /** Of each refusal that the document names one, in every state; after many of them still nothing has changed. */
    private static void refusedCallsChangeNothing() {
        String[] bad = {
            "fresh(4)", "copy(-1, 0)", "copy(0, -1)", "copy(0, 4)", "constrain(4, 4, 0)", "constrain(0, 0, -9)",
            "constrain(0, 5, -9)", "constrain(0, 10, -9)", "constrain(0, 15, -9)", "constrain(0, 16, -9)",
            "constrain(0, -1, -9)", "constrain(0, 4, -10)", "constrain(0, 4, 10)", "meet(4, 0)", "meet(0, 4)",
            "meet(0, -1)", "hull(4, 0)", "hull(0, 4)", "hull(0, -1)", "delay(4)", "past(4)", "reset(4, 1, 0)",
            "reset(0, 0, 0)", "reset(0, 4, 0)", "reset(0, 1, -1)", "reset(0, 1, 10)", "forget(4, 1)", "forget(0, 0)",
            "forget(0, 4)", "bound(4, 4)", "bound(0, 0)", "bound(0, 16)", "count(4)", "least(4)", "spread(4, 4)",
            "spread(0, 0)", "spread(0, 16)", "meeting(4, 0)", "meeting(0, 4)",
        };
        String[] no = {
            "empty(4)", "has(4, 0)", "has(0, -1)", "has(0, 1000)", "within(4, 0)", "within(0, 4)", "touches(4, 0)",
            "touches(0, 4)",
        };
        for (String call : bad) {
            refused(call, BAD);
        }
        for (String call : no) {
            refused(call, 0);
        }
        for (State state : STATES) {
            zonesAre(with(with(state.calls(), bad), no), state.zones());
        }
    }

    private static void badArgument() {
        if (ZoneDesk.BAD_ARG != BAD) {
            fault(List.of(), "BAD_ARG is " + ZoneDesk.BAD_ARG);
        }
        refused("copy(0, 4)", BAD);
    }

    private static void none() {
        if (ZoneDesk.NONE != NONE) {
            fault(List.of(), "NONE is " + ZoneDesk.NONE);
        }
        answers(STATES[1], "least(0)", NONE);
        answers(STATES[1], "bound(0, 4)", NONE);
        answers(STATES[1], "meeting(0, 1)", NONE);
        answers(state(0, LAST, 1, FIRST), "meeting(0, 1)", NONE);
    }

    public static void main(String[] args) {
        sentence("An object is used for at most 512 calls after it has been made",
            BoundaryTermsTest::fiveHundredAndTwelveCalls);
        sentence("A POINT is three whole numbers x1, x2, x3, from 0 to 9 each", BoundaryTermsTest::pointsFromZeroToNine);
        sentence("x0 is always 0", BoundaryTermsTest::xZeroIsZero);
        sentence("There are four ZONES, 0 to 3, each a set of points", BoundaryTermsTest::fourZones);
        sentence("a CONSTRAINT i j c (i and j different, from 0 to 3, c from -9 to 9) is the condition xi - xj <= c",
            BoundaryTermsTest::constraintEnds);
        sentence("A zone is EMPTY if it has no point", BoundaryTermsTest::emptyWithoutPoint);
        sentence("Zones are made by these calls only", BoundaryTermsTest::questionsMakeNothing);
        sentence("a fresh zone has all 1000 points", BoundaryTermsTest::freshHasAllPoints);
        sentence("a constraint is put on it (the points that do not meet it go)",
            BoundaryTermsTest::pointsThatDoNotMeetItGo);
        sentence("it is met with another one (the points of both stay)", BoundaryTermsTest::pointsOfBothStay);
        sentence("DELAY: it becomes all points that come of one of its points by adding the same whole number, 0 or more,"
            + " to x1, x2 and x3, and are still from 0 to 9", () -> moves("delay", 1));
        sentence("PAST: the same with taking the same number off", () -> moves("past", -1));
        sentence("RESET i c: it becomes all points that come of one of its points by setting xi to c",
            BoundaryTermsTest::resets);
        sentence("FORGET i: all points that come of one of its points by changing xi in any way",
            BoundaryTermsTest::forgets);
        sentence("HULL with another one: the least set that has the points of both and can be made from a fresh zone by"
            + " constraints (of any c)", BoundaryTermsTest::leastHull);
        sentence("In all calls with a zone z, z not 0 to 3 answers BAD_ARG (or false) before anything else",
            BoundaryTermsTest::wrongZoneComesFirst);
        sentence("No call ever throws", BoundaryTermsTest::nothingThrows);
        sentence("A refused call answers the code named and changes nothing",
            BoundaryTermsTest::refusedCallsChangeNothing);
        sentence("`BAD_ARG = -1000`: An argument is out of its range", BoundaryTermsTest::badArgument);
        sentence("`NONE = -2000`: The zone is empty, or there is no such thing", BoundaryTermsTest::none);
        end();
    }
}
