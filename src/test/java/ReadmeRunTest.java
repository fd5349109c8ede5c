import java.io.IOException;
import java.nio.file.Files;
import java.nio.file.Path;
import java.util.ArrayList;
import java.util.Collections;
import java.util.List;
import java.util.Set;
import java.util.TreeSet;
import java.util.regex.Matcher;
import java.util.regex.Pattern;

/**
 * README.md's way to run the tests, tried in small copies of the project: the script and the class are the real ones,
 * but each test is a stand-in of the same name that only says that it ran. (The real ones would start this one again.)
 */
public final class ReadmeRunTest {
    private static final String MAIN = "src/main/java/ZoneDesk.java";
    private static final String OWN = "src/test/java";
    private static final String SHARED = "../shared/tests";
    private static final String SUPPORT = "src/test/support";
    private static final Pattern NAME = Pattern.compile("`(\\w+Test)`");

    private static int wrong = 0;

    /** The cases are tried side by side, so faults may come from several threads. */
    private static synchronized void fault(String what) {
        wrong++;
        System.out.println("README.md's way to run the tests: " + what);
    }

    private static Set<String> testsOf(String folder) throws IOException {
        Set<String> names = new TreeSet<>();
        try (var files = Files.newDirectoryStream(Path.of(folder), "*.java")) {
            for (Path file : files) {
                names.add(file.getFileName().toString().replace(".java", ""));
            }
        }
        return names;
    }

    private static void standIn(Workplace place, String folder, String name, String statement) throws IOException {
        place.write(folder + "/" + name + ".java", List.of(
            "public final class " + name + " {",
            "    public static void main(String[] args) {",
            "        System.out.println(\"" + folder + " " + name + " \" + new ZoneDesk().count(0));",
            "        " + statement,
            "    }",
            "}"));
    }

    private static Workplace placeWithoutTests() throws IOException {
        Workplace place = new Workplace();
        place.copy(".ci/run");
        place.copy(MAIN);
        place.write(SUPPORT + "/Help.java", List.of("final class Help {", "    static void help() {", "    }", "}"));
        return place;
    }

    private static Workplace.Outcome run(Workplace place) throws IOException, InterruptedException {
        return place.run(Readme.commands("Tests"));
    }

    /** Each test's stand-in, and no other, has said that it ran, once. */
    private static void runsEveryTest() throws IOException, InterruptedException {
        List<String> due = new ArrayList<>();
        try (Workplace place = placeWithoutTests()) {
            for (String folder : List.of(OWN, SHARED)) {
                for (String name : testsOf(folder)) {
                    standIn(place, folder, name, folder.equals(OWN) ? "Help.help();" : "");
                    due.add(folder + " " + name + " 1000");
                }
            }
            Workplace.Outcome outcome = run(place);
            List<String> said = new ArrayList<>(outcome.lines());
            said.removeIf(line -> !line.endsWith(" 1000"));
            Collections.sort(said);
            Collections.sort(due);
            if (outcome.exit() != 0) {
                fault("ended with " + outcome.exit() + " though no test failed: " + outcome.errors());
            }
            if (!said.equals(due)) {
                fault("ran " + said + ", due is " + due);
            }
        }
    }

    /** What is wrong in a small copy of the project; all of them must be refused. */
    private enum Broken {
        OWN_TEST_FAILS("System.exit(1);", ""),
        SHARED_TEST_FAILS("", "System.exit(1);"),
        OWN_TEST_THROWS("throw new IllegalStateException();", ""),
        OWN_TEST_DOES_NOT_COMPILE("none;", ""),
        SHARED_TEST_DOES_NOT_COMPILE("", "none;"),
        SHARED_TEST_NEEDS_THE_SUPPORT("", "Help.help();"),
        NO_OWN_TEST(null, ""),
        NO_SHARED_TEST("", null),
        CLASS_DOES_NOT_COMPILE("", "");

        private final String inOwn;
        private final String inShared;

        Broken(String inOwn, String inShared) {
            this.inOwn = inOwn;
            this.inShared = inShared;
        }
    }

    /** A test that passes is run after the broken one, so that its end does not hide the failure. */
    private static void standIns(Workplace place, String folder, String statement) throws IOException {
        if (statement != null) {
            standIn(place, folder, "FirstTest", statement);
            standIn(place, folder, "SecondTest", "");
        }
    }

    private static void refuses(Broken broken) {
        try (Workplace place = placeWithoutTests()) {
            standIns(place, OWN, broken.inOwn);
            standIns(place, SHARED, broken.inShared);
            if (broken == Broken.CLASS_DOES_NOT_COMPILE) {
                place.write(MAIN, List.of("public final class ZoneDesk {"));
            }
            int exit = run(place).exit();
            if (exit != 1) {
                fault(broken + " ended with " + exit + ", due is 1");
            }
        } catch (IOException | InterruptedException e) {
            fault(broken + " could not be tried: " + e);
        }
    }

    private static void listNamesEveryTest() throws IOException {
        Set<String> named = new TreeSet<>();
        Matcher name = NAME.matcher(String.join("\n", Readme.section("Tests")));
        while (name.find()) {
            named.add(name.group(1));
        }
        Set<String> due = testsOf(OWN);
        if (!named.equals(due)) {
            fault("the tests listed are " + named + ", due is " + due);
        }
    }

    public static void main(String[] args) throws IOException, InterruptedException {
        listNamesEveryTest();
        runsEveryTest();
        List.of(Broken.values()).parallelStream().forEach(ReadmeRunTest::refuses);
        System.out.println(wrong == 0 ? "README.md's way to run the tests runs them" : wrong + " faults");
        if (wrong != 0) {
            System.exit(1);
        }
    }
}
