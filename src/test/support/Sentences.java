import java.util.ArrayList;
import java.util.Arrays;
import java.util.List;

/**
 * What the boundary tests share. Each test of theirs bears the sentence of the document that it tests. Calls are told
 * as text, so that a fault can be printed as the run that shows it; zones are told as conditions on points, so that
 * what is due comes from the document's words and never from the class that is tested.
 */
abstract class Sentences {
    static final int BAD = -1000;
    static final int NONE = -2000;
    static final int MIN = Integer.MIN_VALUE;
    static final int MAX = Integer.MAX_VALUE;

    /** 1 << 29 times 1000 wraps around to 0, so these would pass for zones if they were looked at too late. */
    static final int[] WRONG_ZONES = {-1, 4, 5, -4, 256, 65536, 1 << 29, (1 << 29) + 1, 1 << 30, -(1 << 29), MIN, MAX};
    static final int[] PAIRS = {1, 2, 3, 4, 6, 7, 8, 9, 11, 12, 13, 14};
    /** i and j the same; below 0; above 15, some of them a right pair if only their lowest bits were looked at. */
    static final int[] WRONG_PAIRS = {
        0, 5, 10, 15, -1, -2, -3, -4, -5, -6, -9, -10, -12, -14, -15, -16, 16, 17, 18, 19, 20, 21, 22, 24, 36,
        256 + 4, 65536 + 6, (1 << 30) + 1, MIN, MIN + 4, MAX, MAX - 1,
    };

    /** The outermost points. */
    static final int[] CORNERS = {0, 9, 90, 99, 900, 909, 990, 999};

    private static final int CALLS = 512;
    private static final int SHOWN = 5;

    private static String words = "";
    private static int wrongHere = 0;
    private static int wrongSentences = 0;
    private static int sentences = 0;

    interface Points {
        boolean has(int x1, int x2, int x3);
    }

    /** A sort of zone: its points, and the calls that make it of a fresh zone, where z stands for the zone. */
    record Kind(String name, Points points, String... calls) {
        List<String> on(int z) {
            List<String> text = new ArrayList<>();
            for (String call : calls) {
                text.add(call.replace("(z", "(" + z));
            }
            return text;
        }
    }

    /** The calls that make four zones of a new object, and what the zones then are. */
    record State(List<String> calls, Points... zones) {
    }

    static final Kind FULL = new Kind("full", (a, b, c) -> true);
    static final Kind EMPTY = new Kind("empty", (a, b, c) -> false, "constrain(z, 4, -1)");
    static final Kind BOUNDED = new Kind("bounded", (a, b, c) -> a - b <= 2 && c - a <= -1 && b <= 7,
        "constrain(z, 6, 2)", "constrain(z, 13, -1)", "constrain(z, 8, 7)");
    static final Kind MIDDLE = point(3, 5, 7);
    static final Kind FIRST = point(0, 0, 0);
    static final Kind LAST = point(9, 9, 9);
    static final Kind[] KINDS = {FULL, EMPTY, BOUNDED, MIDDLE, FIRST, LAST};

    /** All zones full, all empty, and each of four sorts of zone at each of the four places. */
    static final State[] STATES = {
        state(FULL, FULL, FULL, FULL),
        state(EMPTY, EMPTY, EMPTY, EMPTY),
        state(BOUNDED, MIDDLE, EMPTY, FULL),
        state(FULL, BOUNDED, MIDDLE, EMPTY),
        state(EMPTY, FULL, BOUNDED, MIDDLE),
        state(MIDDLE, EMPTY, FULL, BOUNDED),
    };

    static Kind point(int x1, int x2, int x3) {
        return new Kind("" + x3 + x2 + x1, (a, b, c) -> a == x1 && b == x2 && c == x3,
            "reset(z, 1, " + x1 + ")", "reset(z, 2, " + x2 + ")", "reset(z, 3, " + x3 + ")");
    }

    static Kind point(int number) {
        return point(number % 10, number / 10 % 10, number / 100);
    }

    static State state(Kind... kinds) {
        List<String> calls = new ArrayList<>();
        Points[] zones = new Points[4];
        for (int z = 0; z < 4; z++) {
            calls.addAll(kinds[z].on(z));
            zones[z] = kinds[z].points();
        }
        return new State(calls, zones);
    }

    /** Zone z of the one kind, and the other three of another one. */
    static State state(int z, Kind kind, Kind others) {
        Kind[] kinds = {others, others, others, others};
        kinds[z] = kind;
        return state(kinds);
    }

    /** Zone z of the one kind, zone y of the other one (z's, if they are the same), and the rest bounded. */
    static State state(int z, Kind kindOfZ, int y, Kind kindOfY) {
        Kind[] kinds = {BOUNDED, BOUNDED, BOUNDED, BOUNDED};
        kinds[y] = kindOfY;
        kinds[z] = kindOfZ;
        return state(kinds);
    }

    static String call(String name, int... arguments) {
        StringBuilder text = new StringBuilder(name);
        for (int k = 0; k < arguments.length; k++) {
            text.append(k == 0 ? "(" : ", ").append(arguments[k]);
        }
        return text.append(")").toString();
    }

    /** What the call answers; true counts 1 and false 0. */
    static int answer(ZoneDesk desk, String call) {
        int open = call.indexOf('(');
        String[] numbers = call.substring(open + 1, call.length() - 1).split(", ");
        int[] a = new int[3];
        for (int k = 0; k < numbers.length; k++) {
            a[k] = Integer.parseInt(numbers[k]);
        }
        return switch (call.substring(0, open)) {
            case "fresh" -> desk.fresh(a[0]);
            case "copy" -> desk.copy(a[0], a[1]);
            case "constrain" -> desk.constrain(a[0], a[1], a[2]);
            case "meet" -> desk.meet(a[0], a[1]);
            case "hull" -> desk.hull(a[0], a[1]);
            case "delay" -> desk.delay(a[0]);
            case "past" -> desk.past(a[0]);
            case "reset" -> desk.reset(a[0], a[1], a[2]);
            case "forget" -> desk.forget(a[0], a[1]);
            case "empty" -> desk.empty(a[0]) ? 1 : 0;
            case "has" -> desk.has(a[0], a[1]) ? 1 : 0;
            case "bound" -> desk.bound(a[0], a[1]);
            case "count" -> desk.count(a[0]);
            case "within" -> desk.within(a[0], a[1]) ? 1 : 0;
            case "touches" -> desk.touches(a[0], a[1]) ? 1 : 0;
            case "least" -> desk.least(a[0]);
            case "spread" -> desk.spread(a[0], a[1]);
            case "meeting" -> desk.meeting(a[0], a[1]);
            default -> throw new IllegalArgumentException(call);
        };
    }

    static ZoneDesk play(List<String> calls) {
        ZoneDesk desk = new ZoneDesk();
        for (String call : calls) {
            answer(desk, call);
        }
        return desk;
    }

    static List<String> with(List<String> calls, String... more) {
        List<String> all = new ArrayList<>(calls);
        all.addAll(List.of(more));
        return all;
    }

    static boolean has(Points points, int number) {
        return points.has(number % 10, number / 10 % 10, number / 100);
    }

    static int size(Points points) {
        int found = 0;
        for (int p = 0; p < 1000; p++) {
            found += has(points, p) ? 1 : 0;
        }
        return found;
    }

    static int oneIfPoints(Points points) {
        return size(points) > 0 ? 1 : 0;
    }

    /** xi - xj of the point with this number. */
    static int difference(int pair, int number) {
        int[] x = {0, number % 10, number / 10 % 10, number / 100};
        return x[pair / 4] - x[pair % 4];
    }

    /** The points that keep every constraint which all points of both keep: the document's words, tried out. */
    static Points hullOf(Points a, Points b) {
        boolean[] kept = new boolean[1000];
        Arrays.fill(kept, true);
        for (int pair : PAIRS) {
            for (int c = -10; c <= 9; c++) {
                if (allKeep(a, pair, c) && allKeep(b, pair, c)) {
                    for (int p = 0; p < 1000; p++) {
                        kept[p] = kept[p] && difference(pair, p) <= c;
                    }
                }
            }
        }
        return (x1, x2, x3) -> kept[x1 + 10 * x2 + 100 * x3];
    }

    static boolean allKeep(Points points, int pair, int c) {
        for (int p = 0; p < 1000; p++) {
            if (has(points, p) && difference(pair, p) > c) {
                return false;
            }
        }
        return true;
    }

    /** The call, made when the state stands, answers what is due. */
    static void answers(State state, String call, int due) {
        answers(state.calls(), call, due);
    }

    static void answers(List<String> before, String call, int due) {
        int got = answer(play(before), call);
        if (got != due) {
            fault(before, call + " answered " + got + ", due is " + due);
        }
    }

    /** The call answers what is due, zone z is then what is due, and the other three are what they were. */
    static void becomes(State state, String call, int due, int z, Points then) {
        answers(state, call, due);
        Points[] zones = state.zones().clone();
        zones[z] = then;
        zonesAre(with(state.calls(), call), zones);
    }

    /** The call answers the code, and all four zones are then what they were. */
    static void refused(State state, String call, int code) {
        answers(state, call, code);
        zonesAre(with(state.calls(), call), state.zones());
    }

    static void refused(String call, int code) {
        for (State state : STATES) {
            refused(state, call, code);
        }
    }

    /** Every point of all four zones is asked for, on as many objects as the limit of calls makes needed. */
    static void zonesAre(List<String> calls, Points... zones) {
        int slice = CALLS - calls.size();
        if (slice < 1) {
            throw new IllegalArgumentException("no call is left to ask with");
        }
        for (int start = 0; start < 4000; start += slice) {
            ZoneDesk desk = play(calls);
            for (int k = start; k < start + slice && k < 4000; k++) {
                boolean due = has(zones[k / 1000], k % 1000);
                if (desk.has(k / 1000, k % 1000) != due) {
                    fault(calls, call("has", k / 1000, k % 1000) + " answered " + !due + ", due is " + due);
                    return;
                }
            }
        }
    }

    static void fault(List<String> before, String what) {
        wrongHere++;
        if (wrongHere <= SHOWN) {
            System.out.println("\"" + words + "\": after " + before + " " + what);
        }
    }

    /** A throw ends the test of this one sentence only. */
    static void sentence(String quoted, Runnable test) {
        words = quoted;
        wrongHere = 0;
        sentences++;
        try {
            test.run();
        } catch (RuntimeException | Error e) {
            fault(List.of(), "the test threw " + e);
        }
        if (wrongHere > 0) {
            wrongSentences++;
            System.out.println("\"" + words + "\": " + wrongHere + " faults");
        }
    }

    static void end() {
        System.out.println(sentences + " sentences tested, " + wrongSentences + " do not hold");
        if (wrongSentences > 0) {
            System.exit(1);
        }
    }
}
