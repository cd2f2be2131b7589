import java.io.IOException;
import java.lang.reflect.Field;
import java.lang.reflect.Method;
import java.lang.reflect.Modifier;
import java.nio.file.Files;
import java.nio.file.Path;
import java.util.Arrays;
import java.util.Set;
import java.util.TreeSet;
import java.util.regex.Matcher;
import java.util.regex.Pattern;
import java.util.stream.Collectors;

/** The face of the class as the document has it, and the rules of LANGUAGE.md that can be seen. */
public final class LanguageTest {
    private static final Set<String> METHODS = Set.of("int edit(int, int, long)", "int length()",
        "int character(int)", "int tokens()", "int token(int)", "int check()", "int place()",
        "int extent(int, int)", "int scopes()", "int scope(int)", "int names()", "int name(int)",
        "int resolve(int)", "int definition(int)", "int reference(int, int)", "int rename(int, long)");
    private static final Set<String> CONSTANTS = Set.of("NONE", "FULL", "FIXED", "CONFLICT");
    private static final String[] FORBIDDEN = {"->", "::", "\\bimport\\b", "\\bpackage\\b", "\\bthrow",
        "\\btry\\b", "\\bassert\\b", "\\bsynchronized\\b", "\\bvolatile\\b", "\\bnative\\b", "\\bvar\\b",
        "static\\s*\\{", "\\bSystem\\.(?!arraycopy)", "Exact\\(", "\\bprotected\\b", "\\bequals\\b",
        "\\bhashCode\\b", "\\btoString\\b", "\\bfinally\\b", "\\bMath\\.(?!max|min)"};

    private static final Due DUE = new Due();

    public static void main(String[] args) throws IOException {
        faceIsAsWritten();
        constantsAreAsWritten();
        classesInsideAreSmall();
        sourceKeepsToTheRules();
        DUE.end("LanguageTest");
    }

    private static void faceIsAsWritten() {
        Set<String> found = new TreeSet<>();
        for (Method m : BindingServer.class.getDeclaredMethods()) {
            if (!Modifier.isPrivate(m.getModifiers())) {
                DUE.isTrue(m + " is public", Modifier.isPublic(m.getModifiers()));
                DUE.isTrue(m + " is not static", !Modifier.isStatic(m.getModifiers()));
                found.add(m.getReturnType() + " " + m.getName() + Arrays.stream(m.getParameterTypes())
                    .map(Class::toString).collect(Collectors.joining(", ", "(", ")")));
            }
        }
        DUE.same("methods", found.toString(), new TreeSet<>(METHODS).toString());
        DUE.is("class", BindingServer.class.getModifiers(), Modifier.PUBLIC | Modifier.FINAL);
        DUE.is("constructors", BindingServer.class.getDeclaredConstructors().length, 1);
        DUE.is("public constructors", BindingServer.class.getConstructors().length, 1);
        DUE.is("its parameters", BindingServer.class.getConstructors()[0].getParameterCount(), 0);
    }

    private static void constantsAreAsWritten() {
        DUE.is("NONE", BindingServer.NONE, -1);
        DUE.is("FULL", BindingServer.FULL, -2);
        DUE.is("FIXED", BindingServer.FIXED, -3);
        DUE.is("CONFLICT", BindingServer.CONFLICT, -4);
        for (Field f : BindingServer.class.getDeclaredFields()) {
            boolean constant = CONSTANTS.contains(f.getName());
            int want = constant ? Modifier.PUBLIC | Modifier.STATIC | Modifier.FINAL : Modifier.PRIVATE;
            DUE.is("field " + f.getName(), f.getModifiers() & ~(constant ? 0 : Modifier.FINAL), want);
        }
    }

    private static void classesInsideAreSmall() {
        Class<?>[] inside = BindingServer.class.getDeclaredClasses();
        DUE.isTrue("at most twelve classes", inside.length + 1 <= 12);
        for (Class<?> c : inside) {
            DUE.isTrue(c + " is static", Modifier.isStatic(c.getModifiers()));
            int fields = 0;
            for (Field f : c.getDeclaredFields()) {
                boolean isStatic = Modifier.isStatic(f.getModifiers());
                DUE.isTrue(f + " is final", !isStatic || Modifier.isFinal(f.getModifiers()));
                fields += isStatic ? 0 : 1;
            }
            DUE.isTrue(c + " has at most twenty fields", fields <= 20);
            for (Method m : c.getDeclaredMethods()) {
                DUE.isTrue(m + " has at most seven parameters", m.getParameterCount() <= 7);
                boolean named = METHODS.stream().anyMatch(f -> f.contains(" " + m.getName() + "("));
                DUE.isTrue(m + " has no name of the face", !named);
            }
        }
    }

    private static void sourceKeepsToTheRules() throws IOException {
        Path file = Path.of(System.getProperty("project.root", "."), "src/main/java/BindingServer.java");
        String source = Files.readString(file).replaceAll("(?s)/\\*.*?\\*/|//[^\n]*", "");
        for (String pattern : FORBIDDEN) {
            Matcher m = Pattern.compile(pattern).matcher(source);
            DUE.isTrue("the source has no " + pattern, !m.find());
        }
        DUE.isTrue("only characters that are plain", source.chars().allMatch(c -> c == 10
            || c >= 32 && c <= 126));
        String[] lines = source.split("\n");
        int begin = -1;
        boolean constructor = false;
        for (int i = 0; i < lines.length; i++) {
            if (lines[i].matches(" +(public |private |static |final )*[\\w\\[\\]]+( \\w+)?\\(.*\\) \\{")
                && !lines[i].matches(" +(if|for|while|switch|return) .*")) {
                begin = i;
                constructor = lines[i].matches(" +(public )?[A-Z]\\w*\\(.*");
            }
            if (begin >= 0) {
                DUE.isTrue("method at line " + begin + " is short", i - begin <= 60);
            }
            if (lines[i].contains("new ")) {
                DUE.isTrue("made in a constructor: " + lines[i].trim(), constructor);
            }
            if (lines[i].matches(" {4}( {4})?\\}")) {
                begin = -1;
            }
        }
    }
}
