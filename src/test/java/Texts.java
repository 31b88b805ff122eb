import java.io.IOException;
import java.nio.file.Files;
import java.nio.file.Path;
import java.util.ArrayList;
import java.util.List;
import java.util.stream.Stream;

/** The texts that tests look into. All are found from the project's own folder, from which tests are run. */
final class Texts {
    static final Path CLASS = Path.of("src/main/java/FixedFacts.java");
    private static final Path DOCUMENT = Path.of("../shared/DOC.md");
    private static final Path README = Path.of("README.md");
    private static final Path TESTS = Path.of("src/test/java");

    private Texts() {
    }

    static String ofClass() throws IOException {
        return Files.readString(CLASS);
    }

    static String ofDocument() throws IOException {
        return Files.readString(DOCUMENT);
    }

    static String ofReadme() throws IOException {
        return Files.readString(README);
    }

    /** The files beside this one, by name. */
    static List<Path> tests() throws IOException {
        try (Stream<Path> files = Files.list(TESTS)) {
            return new ArrayList<>(files.filter(file -> file.toString().endsWith(".java")).sorted().toList());
        }
    }

    /** Lines and blanks do not matter where sentences are compared. */
    static String plain(String text) {
        return text.replaceAll("\\s+", " ").trim();
    }
}
