import java.io.IOException;
import java.lang.reflect.Method;
import java.lang.reflect.Modifier;
import java.nio.file.Files;
import java.nio.file.Path;
import java.util.List;
import java.util.stream.Collectors;
import java.util.stream.Stream;

/** README.md: its examples show the whole face, it names the tests; and what is no example. */
public final class ReadmeTest {
    private static final String MADE = "SpaceBasis s = new SpaceBasis();";

    public static void main(String[] args) throws IOException {
        String readme = Files.readString(Path.of("README.md"));
        showsEveryCall(readme);
        namesEveryTest(readme);
        examplesThatAreRefused();
        examplesBecomeCalls();
        Due.end("ReadmeTest");
    }

    private static void showsEveryCall(String readme) {
        String shown = ReadmeExamples.blocks(readme).stream().flatMap(List::stream)
            .map(ReadmeExamples.Line::text).collect(Collectors.joining("\n"));
        for (Method method : SpaceBasis.class.getDeclaredMethods()) {
            if (Modifier.isPublic(method.getModifiers())) {
                String call = "s." + method.getName() + "(";
                Due.holds("an example shows " + call + ")", shown.contains(call));
            }
        }
        Due.holds("an example shows new SpaceBasis()", shown.contains(MADE));
        for (String answer : List.of("answers NONE", "answers true", "answers false",
                "throws IllegalArgumentException", "throws IllegalStateException")) {
            Due.holds("an example " + answer, shown.contains("// " + answer));
        }
    }

    private static void namesEveryTest(String readme) throws IOException {
        try (Stream<Path> files = Files.list(Path.of("src/test/java"))) {
            for (Path file : files.collect(Collectors.toList())) {
                String name = file.getFileName().toString().replace(".java", "");
                Due.holds("README.md names " + name, readme.contains("`" + name + "`"));
            }
        }
        Due.holds("README.md names .ci/run", readme.contains("    .ci/run\n"));
        Due.holds("README.md names ../shared/tests", readme.contains("`../shared/tests`"));
    }

    private static String example(String... lines) {
        return "text\n```java\n" + MADE + "\n" + String.join("\n", lines) + "\n```\ntext\n";
    }

    private static void refused(String what, String readme) {
        Due.refusesArgument(what, () -> ReadmeExamples.program(readme));
    }

    /** What could not be checked must not be passed over. */
    private static void examplesThatAreRefused() {
        refused("no example", "text\n");
        refused("a block without an end", "```java\n" + MADE + "\n");
        refused("a block of another kind", example() + "```\n" + MADE + "\n```\n");
        refused("a call without its answer", example("s.basis(5);"));
        refused("a call with another comment", example("s.basis(5); // 2"));
        refused("a call with half an answer", example("s.basis(5); // answers"));
        refused("a call with more than an answer", example("s.basis(5); // answers 2 or 3"));
        refused("an answer where none is", example("s.clear(); // answers 0"));
        refused("no such method", example("s.size(); // answers 0"));
        refused("no statement", example("s.basis(5)"));
        refused("two statements", example("s.clear(); s.clear();"));
        refused("another statement", example("int k = s.proved();"));
    }

    private static void becomes(String line, String... parts) {
        String program = ReadmeExamples.program(example(line));
        for (String part : parts) {
            Due.holds(line + " becomes " + part, program.contains(part));
        }
    }

    private static void examplesBecomeCalls() {
        becomes("s.clear();", "        example0();\n", "        " + MADE + "\n        s.clear();\n");
        becomes("s.clear(); // free", "        s.clear();\n");
        becomes("s.basis(5); // answers 0", "due(4, \"s.basis(5);\", s.basis(5), 0);");
        becomes("s.lead(0); // answers NONE: why", "due(4, \"s.lead(0);\", s.lead(0), NONE);");
        becomes("s.remainder(); // throws IllegalStateException: why",
            "try { s.remainder(); due(4, \"s.remainder();\", \"without an exception\"",
            "due(4, \"s.remainder();\", e.getClass().getSimpleName(), \"IllegalStateException\")");
        becomes("s.field(9, 2, 0); // throws IllegalArgumentException", "try { s.field(9, 2, 0); ");
    }
}
