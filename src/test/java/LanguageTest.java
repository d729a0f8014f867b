import java.io.IOException;
import java.lang.reflect.Constructor;
import java.lang.reflect.Field;
import java.lang.reflect.Method;
import java.lang.reflect.Modifier;
import java.nio.file.Files;
import java.nio.file.Path;
import java.util.Set;
import java.util.TreeSet;
import java.util.regex.Matcher;
import java.util.regex.Pattern;

/** The face of the class, and those rules of the language that can be seen in its text. */
public final class LanguageTest {
    private static final Set<String> FACE = Set.of(
        "void field(int,int,int) IllegalArgumentException",
        "void coefficient(int,int) IllegalArgumentException",
        "int hand(int)",
        "int join() IllegalArgumentException IllegalStateException",
        "void clear()",
        "int basis(int) IllegalArgumentException",
        "int lead(int)",
        "int member(int,int)",
        "int ideal(int)",
        "int standard(int)",
        "boolean remainder() IllegalStateException",
        "int proved()");

    public static void main(String[] args) throws IOException {
        face();
        nested();
        text();
        Due.end("LanguageTest");
    }

    private static String told(Method m) {
        StringBuilder parameters = new StringBuilder();
        for (Class<?> type : m.getParameterTypes()) {
            parameters.append(parameters.length() == 0 ? "" : ",").append(type.getSimpleName());
        }
        StringBuilder all = new StringBuilder();
        all.append(m.getReturnType().getSimpleName()).append(' ').append(m.getName());
        all.append('(').append(parameters).append(')');
        for (Class<?> type : m.getExceptionTypes()) {
            all.append(' ').append(type.getSimpleName());
        }
        return all.toString();
    }

    private static void face() {
        Set<String> found = new TreeSet<>();
        Set<String> names = new TreeSet<>();
        for (Method m : SpaceBasis.class.getDeclaredMethods()) {
            if (Modifier.isPrivate(m.getModifiers())) {
                continue;
            }
            found.add(told(m));
            names.add(m.getName());
            Due.holds("public, not static: " + m, m.getModifiers() == Modifier.PUBLIC);
        }
        Due.holds("the methods are " + found, found.equals(FACE));
        for (Method m : SpaceBasis.class.getDeclaredMethods()) {
            boolean hidden = Modifier.isPrivate(m.getModifiers());
            Due.fails("a private method has a public name: " + m, hidden && names.contains(m.getName()));
        }
        for (Field f : SpaceBasis.class.getDeclaredFields()) {
            boolean open = !Modifier.isPrivate(f.getModifiers());
            Due.fails("an open field: " + f, open && !f.getName().equals("NONE"));
            boolean shared = Modifier.isStatic(f.getModifiers());
            Due.fails("shared state: " + f, shared && !Modifier.isFinal(f.getModifiers()));
        }
        for (Constructor<?> c : SpaceBasis.class.getDeclaredConstructors()) {
            Due.is("the constructor's parameters", c.getParameterCount(), 0);
            Due.holds("the constructor is public", Modifier.isPublic(c.getModifiers()));
        }
        Due.holds("the class is public and final",
            SpaceBasis.class.getModifiers() == (Modifier.PUBLIC | Modifier.FINAL));
    }

    private static void nested() {
        Class<?>[] inside = SpaceBasis.class.getDeclaredClasses();
        Due.holds("at most twelve classes", inside.length < 12);
        for (Class<?> c : inside) {
            Due.holds("static: " + c, Modifier.isStatic(c.getModifiers()));
            Due.holds("not open: " + c,
                (c.getModifiers() & (Modifier.PUBLIC | Modifier.PROTECTED)) == 0);
            Due.holds("at most twenty fields: " + c, c.getDeclaredFields().length <= 20);
            for (Method m : c.getDeclaredMethods()) {
                Due.holds("at most seven parameters: " + m, m.getParameterCount() <= 7);
            }
        }
    }

    private static void text() throws IOException {
        String text = Files.readString(Path.of("src/main/java/SpaceBasis.java"));
        String code = text.replaceAll("(?s)/\\*.*?\\*/", " ").replaceAll("//[^\n]*", " ");
        String[] refused = {
            "->", "::", "\\btry\\b", "\\bcatch\\b", "\\bfinally\\b", "\\bsynchronized\\b",
            "\\bassert\\b", "\\bpackage\\b", "Exact\\b", "\\binstanceof\\b", "\\bequals\\b",
            "\\bhashCode\\b", "\\btoString\\b", "\\bvolatile\\b", "\\bdouble\\b", "\\bfloat\\b",
            "\\bThread\\b", "\\bRandom\\b", "\\bSystem\\.(?!arraycopy)", "static\\s*\\{"
        };
        for (String pattern : refused) {
            Due.fails("the text has " + pattern, Pattern.compile(pattern).matcher(code).find());
        }
        Matcher imports = Pattern.compile("import ([^;]*);").matcher(code);
        while (imports.find()) {
            Due.holds("import of " + imports.group(1), imports.group(1).equals("java.util.Arrays"));
        }
        Matcher throwing = Pattern.compile("throw ([^;]*);").matcher(code);
        while (throwing.find()) {
            Due.holds("throws " + throwing.group(1), throwing.group(1).matches(
                "new Illegal(Argument|State)Exception\\(\"[^\"]*\"\\)"));
        }
    }
}
