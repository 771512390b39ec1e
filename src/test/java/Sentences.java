import java.io.IOException;
import java.nio.file.Files;
import java.nio.file.Path;
import java.util.ArrayList;
import java.util.HashSet;
import java.util.List;
import java.util.Set;

/** The sentences of the document that have a test of their own: each test names its sentence by heading and words. */
final class Sentences {
    private static final Path DOCUMENT = Path.of("../shared/DOC.md");

    interface Test {
        void on(Run x);
    }

    private final String document;
    private final Set<String> named = new HashSet<>();
    private String heading = "";
    private String section = "";
    private int wrong = 0;

    Sentences() throws IOException {
        document = Files.readString(DOCUMENT);
    }

    /** The sentences that follow stand under this heading. */
    void under(String title) {
        heading = title;
        int start = document.indexOf("\n## " + title + "\n");
        int end = start < 0 ? -1 : document.indexOf("\n## ", start + 1);
        section = start < 0 ? "" : oneLine(document.substring(start, end < 0 ? document.length() : end));
        if (start < 0) {
            tell("the document has no such heading");
        }
    }

    /** The test that would fail if the sentence with these words were broken. */
    void holds(String words, Test test) {
        if (!section.contains(oneLine(words))) {
            tell("\"" + words + "\" does not stand there");
        }
        if (!named.add(heading + ": " + words)) {
            tell("\"" + words + "\" has a test already");
        }
        List<String> faults = new ArrayList<>();
        try {
            test.on(new Run(faults));
        } catch (RuntimeException e) {
            faults.add("the test ended with " + e);
        }
        for (String fault : faults) {
            tell("\"" + words + "\": " + fault);
        }
    }

    void end() {
        System.out.println(wrong == 0 ? named.size() + " sentences hold" : wrong + " faults");
        if (wrong != 0) {
            System.exit(1);
        }
    }

    private void tell(String fault) {
        wrong++;
        System.out.println(heading + ": " + fault);
    }

    private static String oneLine(String text) {
        return text.replaceAll("\\s+", " ");
    }
}
