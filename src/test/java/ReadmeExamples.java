import java.io.IOException;
import java.lang.reflect.Method;
import java.nio.file.Files;
import java.nio.file.Path;
import java.util.ArrayList;
import java.util.List;
import java.util.regex.Matcher;
import java.util.regex.Pattern;

/**
 * Makes a program of the examples in README.md: every call there is made, and what it answers or
 * throws is held against what README.md says. .ci/run compiles the program and runs it.
 */
public final class ReadmeExamples {
    private static final String FENCE = "```";
    private static final Pattern LINE = Pattern.compile("(\\S[^\"]*?;)(?:\\s+// (.*))?");
    private static final Pattern CALL = Pattern.compile("\\w+\\.(\\w+)\\([^()]*\\);");
    private static final Pattern MADE = Pattern.compile("SpaceBasis \\w+ = new SpaceBasis\\(\\);");
    private static final Pattern SAID = Pattern.compile("(answers|throws) (-?\\w+)(?::.*)?");

    /** A line of an example, and where it stands in README.md. */
    record Line(int number, String text) {
    }

    private ReadmeExamples() {
    }

    public static void main(String[] args) throws IOException {
        if (args.length != 2) {
            System.out.println("due are README.md and the file to be written");
            System.exit(1);
        }
        String program = "";
        try {
            program = program(Files.readString(Path.of(args[0])));
        } catch (IllegalArgumentException e) {
            System.out.println(args[0] + ", " + e.getMessage());
            System.exit(1);
        }
        Files.writeString(Path.of(args[1]), program);
    }

    /** The blocks of Java, without empty lines. */
    static List<List<Line>> blocks(String readme) {
        List<List<Line>> blocks = new ArrayList<>();
        List<Line> open = null;
        int number = 0;
        for (String text : readme.split("\n", -1)) {
            number++;
            if (text.startsWith(FENCE)) {
                // A block of another kind would be an example that is not looked at.
                refuseIf(!text.equals(open == null ? FENCE + "java" : FENCE), number, "no such block");
                if (open != null) {
                    blocks.add(open);
                }
                open = open == null ? new ArrayList<>() : null;
            } else if (open != null && !text.isBlank()) {
                open.add(new Line(number, text.strip()));
            }
        }
        refuseIf(open != null, number, "a block has no end");
        refuseIf(blocks.isEmpty(), number, "there is no example");
        return blocks;
    }

    private static void refuseIf(boolean wrong, int line, String why) {
        if (wrong) {
            throw new IllegalArgumentException("line " + line + ": " + why);
        }
    }

    static String program(String readme) {
        StringBuilder calls = new StringBuilder();
        StringBuilder methods = new StringBuilder();
        List<List<Line>> blocks = blocks(readme);
        for (int b = 0; b < blocks.size(); b++) {
            calls.append("        example").append(b).append("();\n");
            methods.append("    private static void example").append(b).append("() {\n");
            for (Line line : blocks.get(b)) {
                methods.append("        ").append(checked(line)).append('\n');
            }
            methods.append("    }\n");
        }
        return """
            public final class ReadmeCalls {
                private static final int NONE = SpaceBasis.NONE;
                private static int wrong = 0;
                private static void due(int line, String call, Object got, Object want) {
                    if (!want.equals(got)) {
                        wrong++;
                        System.out.println("README.md, line " + line + ": " + call + " answered "
                            + got + ", README.md says " + want);
                    }
                }
                public static void main(String[] args) {
            CALLS
                    System.out.println("ReadmeCalls: " + (wrong == 0 ? "as README.md says" : "wrong"));
                    System.exit(wrong == 0 ? 0 : 1);
                }
            METHODS
            }
            """.replace("CALLS\n", calls).replace("METHODS\n", methods);
    }

    /** The line as a statement of the program. */
    private static String checked(Line line) {
        Matcher parts = LINE.matcher(line.text());
        refuseIf(!parts.matches(), line.number(), "no statement with a comment behind it");
        String statement = parts.group(1);
        Matcher call = CALL.matcher(statement);
        if (!call.matches()) {
            refuseIf(!MADE.matcher(statement).matches(), line.number(), "no call, and no new object");
            return statement;
        }
        Matcher said = SAID.matcher(parts.group(2) == null ? "" : parts.group(2));
        boolean says = said.matches();
        if (says && said.group(1).equals("throws")) {
            return refused(line, statement, said.group(2));
        }
        boolean answers = hasAnswer(line, call.group(1));
        refuseIf(answers != says, line.number(), answers ? "no answer is told" : "it has no answer");
        return answers ? answered(line, statement, said.group(2)) : statement;
    }

    private static boolean hasAnswer(Line line, String name) {
        for (Method method : SpaceBasis.class.getMethods()) {
            if (method.getName().equals(name)) {
                return method.getReturnType() != void.class;
            }
        }
        throw new IllegalArgumentException("line " + line.number() + ": no method " + name);
    }

    private static String due(Line line, String statement, String got, String want) {
        return "due(" + line.number() + ", \"" + statement + "\", " + got + ", " + want + ");";
    }

    private static String answered(Line line, String statement, String want) {
        String call = statement.substring(0, statement.length() - 1);
        return due(line, statement, call, want);
    }

    private static String refused(Line line, String statement, String exception) {
        String want = "\"" + exception + "\"";
        String thrown = due(line, statement, "e.getClass().getSimpleName()", want);
        String passed = due(line, statement, "\"without an exception\"", want);
        return "try { " + statement + " " + passed + " } catch (RuntimeException e) { " + thrown + " }";
    }
}
