import java.io.IOException;
import java.nio.file.Files;
import java.nio.file.Path;
import java.util.ArrayList;
import java.util.List;
import java.util.regex.Pattern;

/** Each sentence of the document has a test: src/test/sentences.txt names them; it is run from the project's root. */
public final class DocumentTest {
    private static final Check check = new Check("DocumentTest");
    private static final Path TESTS = Path.of("src/test/java");

    /** What is quoted, and the line below it. */
    private record Sentence(String quoted, String below) {
    }

    public static void main(String[] args) throws IOException {
        List<Sentence> sentences = read(Files.readAllLines(Path.of("src/test/sentences.txt")));
        wholeDocumentIsQuoted(Files.readString(Path.of("../shared/DOC.md")), sentences);
        for (Sentence sentence : sentences) testsAreRun(sentence);
        everyPromiseIsTested(sentences);
        check.end();
    }

    private static List<Sentence> read(List<String> lines) {
        List<Sentence> all = new ArrayList<>();
        StringBuilder quoted = new StringBuilder();
        for (String line : lines) {
            if (line.isBlank() || line.startsWith("# ")) continue;
            if (line.startsWith("> ")) {
                quoted.append(line.substring(2)).append(' ');
            } else {
                all.add(new Sentence(inOneLine(quoted.toString()), line));
                quoted.setLength(0);
            }
        }
        check.isTrue("something stands below the last sentence", quoted.isEmpty());
        return all;
    }

    private static String inOneLine(String text) {
        return text.replaceAll("\\s+", " ").trim();
    }

    private static void wholeDocumentIsQuoted(String document, List<Sentence> sentences) {
        String left = inOneLine(document);
        for (Sentence sentence : sentences) {
            boolean next = left.startsWith(sentence.quoted());
            check.isTrue("next in the document is '" + sentence.quoted() + "', not '" + left.substring(0, Math.min(80, left.length())) + "'", next);
            if (!next) return;
            left = left.substring(sentence.quoted().length()).trim();
        }
        check.isTrue("nothing is left out at the end: " + left, left.isEmpty());
    }

    private static void testsAreRun(Sentence sentence) throws IOException {
        if (sentence.below().startsWith("- ")) return;
        for (String test : sentence.below().split(" ")) {
            String[] names = test.split("\\.");
            Path file = TESTS.resolve(names[0] + ".java");
            boolean there = names.length == 2 && names[0].endsWith("Test") && Files.exists(file);
            check.isTrue(test + " is a test", there);
            if (!there) continue;
            String source = Files.readString(file);
            String main = source.substring(source.indexOf("void main("), source.indexOf("\n    }\n", source.indexOf("void main(")));
            check.isTrue(test + " is there", Pattern.compile("private static void " + names[1] + "\\(").matcher(source).find());
            check.isTrue(test + " is run", Pattern.compile("\\b" + names[1] + "\\(").matcher(main).find());
        }
    }

    private static void everyPromiseIsTested(List<Sentence> sentences) {
        for (int promise = 1; promise <= 41; promise++) {
            String heading = "## Promise " + promise + ": ";
            boolean tested = sentences.stream().anyMatch(s -> s.quoted().startsWith(heading) && !s.below().startsWith("- "));
            check.isTrue("promise " + promise + " has a test", tested);
        }
    }
}
