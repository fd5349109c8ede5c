import java.io.IOException;
import java.nio.file.Files;
import java.nio.file.Path;
import java.util.ArrayList;
import java.util.List;

/** README.md by its sections: what a reader would copy from there, to a program or to a shell. */
final class Readme {
    private static final String INDENT = "    ";

    private Readme() {
    }

    static List<String> section(String title) throws IOException {
        List<String> lines = new ArrayList<>();
        boolean inside = false;
        for (String line : Files.readAllLines(Path.of("README.md"))) {
            if (line.startsWith("## ")) {
                inside = line.equals("## " + title);
            } else if (inside) {
                lines.add(line);
            }
        }
        return lines;
    }

    /** The lines of the section's Java code. */
    static List<String> code(String title) throws IOException {
        List<String> lines = new ArrayList<>();
        boolean inside = false;
        for (String line : section(title)) {
            if (line.startsWith("```")) {
                inside = line.equals("```java");
            } else if (inside) {
                lines.add(line);
            }
        }
        return lines;
    }

    /** The section's shell commands: its indented lines. */
    static List<String> commands(String title) throws IOException {
        List<String> lines = new ArrayList<>();
        for (String line : section(title)) {
            if (line.startsWith(INDENT)) {
                lines.add(line.strip());
            }
        }
        return lines;
    }
}
