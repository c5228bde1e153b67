import java.io.IOException;
import java.nio.file.Files;
import java.nio.file.Path;
import java.util.List;

/** The class as the document writes it down under "The public face". */
final class Face {
    private static final Path DOCUMENT = Path.of("../shared/DOC.md");

    private Face() {
    }

    /** The declaration of the class and of each member, without the sign that ends the line. */
    static List<String> declarations() throws IOException {
        return Files.readAllLines(DOCUMENT).stream()
                .dropWhile(line -> !line.equals("## The public face"))
                .skip(1)
                .takeWhile(line -> !line.startsWith("## "))
                .filter(line -> line.contains("public "))
                .map(line -> line.trim().replaceAll(" ?[;{]$", ""))
                .toList();
    }

    /** For example "ACCEPTED = 0". */
    static List<String> constants() throws IOException {
        return declarations().stream()
                .filter(line -> line.contains(" = "))
                .map(line -> line.replace("public static final int ", ""))
                .toList();
    }

    /** For example "tick(n)": the constructor and the methods with the names of their parameters. */
    static List<String> calls() throws IOException {
        return declarations().stream()
                .filter(line -> line.contains("("))
                .map(line -> line.replace("public ", "").replaceAll("\\b(int|boolean) ", ""))
                .toList();
    }
}
