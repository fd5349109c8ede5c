import java.io.IOException;
import java.lang.reflect.Method;
import java.lang.reflect.Modifier;
import java.util.ArrayList;
import java.util.List;
import java.util.Set;
import java.util.TreeSet;
import java.util.regex.Matcher;
import java.util.regex.Pattern;

/** README.md against the class: what its program answers, and the calls and constants that it names. */
public final class ReadmeCallsTest {
    private static final String MAKING = "ZoneDesk desk = new ZoneDesk();";
    private static final Pattern CALL = Pattern.compile("desk\\.((\\w+)\\(.*\\));\\s+// (-?\\w+)(: .+)?");
    private static final Pattern ROW = Pattern.compile("\\| `(\\w+)\\(([^)]*)\\)` \\|.*");
    private static final Pattern CONSTANT = Pattern.compile("`([A-Z_]+)` \\((-?\\d+)\\)");

    private static int wrong = 0;

    private static void fault(String what) {
        wrong++;
        System.out.println("README.md: " + what);
    }

    private static void same(String what, Object got, Object due) {
        if (!got.equals(due)) {
            fault(what + " " + got + ", due is " + due);
        }
    }

    /** The calls of README.md's program, in their order, each with the name of its method and the answer shown. */
    private static List<Matcher> shownCalls() throws IOException {
        List<Matcher> calls = new ArrayList<>();
        for (String line : Readme.code("Use")) {
            Matcher call = CALL.matcher(line);
            if (call.matches()) {
                calls.add(call);
            } else if (!line.isBlank() && !line.startsWith(MAKING)) {
                fault("no call with its answer: " + line);
            }
        }
        return calls;
    }

    /** README.md's program with each call's answer printed, so that the answers can be read from outside. */
    private static List<String> program(List<Matcher> calls) {
        List<String> lines = new ArrayList<>();
        lines.add("public final class Program {");
        lines.add("    public static void main(String[] args) {");
        lines.add("        " + MAKING);
        for (Matcher call : calls) {
            lines.add("        System.out.println(desk." + call.group(1) + ");");
        }
        lines.add("    }");
        lines.add("}");
        return lines;
    }

    private static String printed(String shown) {
        return switch (shown) {
            case "BAD_ARG" -> "-1000";
            case "NONE" -> "-2000";
            default -> shown;
        };
    }

    private static void answersAsShown(String call, String got, String shown) {
        if (!got.equals(shown)) {
            fault("says that " + call + " answers " + shown + ", but it answers " + got);
        }
    }

    private static void programAnswers() throws IOException, InterruptedException {
        List<Matcher> calls = shownCalls();
        try (Workplace place = new Workplace()) {
            place.copy("src/main/java/ZoneDesk.java");
            place.write("Program.java", program(calls));
            Workplace.Outcome outcome = place.run(Readme.commands("Use"));
            if (outcome.exit() != 0) {
                fault("its commands ended with " + outcome.exit() + ": " + outcome.errors());
            }
            same("the number of its program's answers is", outcome.lines().size(), calls.size());
            for (int k = 0; k < Math.min(calls.size(), outcome.lines().size()); k++) {
                Matcher call = calls.get(k);
                answersAsShown(call.group(1), outcome.lines().get(k), printed(call.group(3)));
            }
        }
    }

    private static Set<String> methods() {
        Set<String> names = new TreeSet<>();
        for (Method m : ZoneDesk.class.getDeclaredMethods()) {
            if (Modifier.isPublic(m.getModifiers())) {
                names.add(m.getName() + "/" + m.getParameterCount());
            }
        }
        return names;
    }

    private static void programShowsEveryCall() throws IOException {
        Set<String> shown = new TreeSet<>();
        for (Matcher call : shownCalls()) {
            shown.add(call.group(2) + "/" + call.group(1).split(",").length);
        }
        same("its program calls", shown, methods());
    }

    private static void tableNamesEveryCall() throws IOException {
        Set<String> named = new TreeSet<>();
        for (String line : Readme.section("Use")) {
            Matcher row = ROW.matcher(line);
            if (row.matches()) {
                named.add(row.group(1) + "/" + row.group(2).split(",").length);
            }
        }
        same("its table names", named, methods());
    }

    private static void constantsAreTheClass() throws IOException {
        Set<String> told = new TreeSet<>();
        Matcher constant = CONSTANT.matcher(String.join("\n", Readme.section("Use")));
        while (constant.find()) {
            told.add(constant.group(1) + " = " + constant.group(2));
        }
        same("the constants that it tells are", told,
            new TreeSet<>(Set.of("BAD_ARG = " + ZoneDesk.BAD_ARG, "NONE = " + ZoneDesk.NONE)));
    }

    public static void main(String[] args) throws IOException, InterruptedException {
        programAnswers();
        programShowsEveryCall();
        tableNamesEveryCall();
        constantsAreTheClass();
        System.out.println(wrong == 0 ? "README.md tells the calls as they are" : wrong + " faults in README.md");
        if (wrong != 0) {
            System.exit(1);
        }
    }
}
