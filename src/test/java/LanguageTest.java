import java.io.IOException;
import java.lang.reflect.Constructor;
import java.lang.reflect.Field;
import java.lang.reflect.Method;
import java.lang.reflect.Modifier;
import java.nio.file.Files;
import java.nio.file.Path;
import java.util.Arrays;
import java.util.HashSet;
import java.util.List;
import java.util.Set;
import java.util.TreeSet;
import java.util.regex.Matcher;
import java.util.regex.Pattern;

/** The face of the document, and those rules of LANGUAGE.md that can be seen from outside or from the text. */
public final class LanguageTest {
    private static final Path SOURCE = Path.of("src/main/java/RootGates.java");
    private static final String[] FACE = {"one(int)", "gate(int,int)", "ahead(int,int)", "times(int,int,int)",
        "turn(int)", "part(int,int,int,int):long", "e(int)", "phase(int,int)", "channel(int,int,int,int):long",
        "count(int)", "clifford(int)", "take(int,int)", "leads(int,int)", "price(int,int)", "cheapest(int,int)",
        "push(int,int)", "pull(int)", "word(int,int)", "value(int,int)", "shorter(int)", "normal(int,int)",
        "fits(int,int,int)", "parts(int,int)", "undo()", "feed(int)", "wipe()", "write(int)", "image()", "restore()",
        "told(int)"};
    private static final String[] CONSTANTS = {"BAD", "NOT", "FULL", "STATE", "VOID"};
    private static final String[] FORBIDDEN = {"throw", "throws", "try", "catch", "synchronized", "assert", "import",
        "package", "Object", "protected", "native", "volatile", "transient", "var", "System.out", "Exact", "hashCode",
        "toString", "equals", "this.getClass", "Thread", "Random", "currentTimeMillis", "nanoTime"};
    private static final Due due = new Due();

    public static void main(String[] args) throws IOException {
        face();
        nested();
        text();
        sizes();
        due.end();
    }

    private static String tell(Method m) {
        StringBuilder text = new StringBuilder(m.getName()).append('(');
        for (Class<?> type : m.getParameterTypes()) {
            text.append(text.charAt(text.length() - 1) == '(' ? "" : ",").append(type.getName());
        }
        return text.append(')').append(m.getReturnType() == int.class ? "" : ":" + m.getReturnType().getName()).toString();
    }

    private static void face() {
        due.isTrue("public final class", (RootGates.class.getModifiers() & (Modifier.PUBLIC | Modifier.FINAL))
            == (Modifier.PUBLIC | Modifier.FINAL));
        Set<String> seen = new TreeSet<>();
        Set<String> names = new HashSet<>();
        for (Method m : RootGates.class.getDeclaredMethods()) {
            if (!Modifier.isPrivate(m.getModifiers())) {
                seen.add(tell(m));
                names.add(m.getName());
                due.isTrue("public and no more: " + m, m.getModifiers() == Modifier.PUBLIC);
            }
        }
        due.isTrue("the methods of the face, not " + seen, seen.equals(new TreeSet<>(Arrays.asList(FACE))));
        noMethodNamed(names, RootGates.class);
        for (Field f : RootGates.class.getDeclaredFields()) {
            boolean isConstant = List.of(CONSTANTS).contains(f.getName());
            due.isTrue("public just if a constant: " + f, Modifier.isPublic(f.getModifiers()) == isConstant);
            due.isTrue("public or private: " + f, isConstant || Modifier.isPrivate(f.getModifiers()));
            due.isTrue("static is final: " + f,
                !Modifier.isStatic(f.getModifiers()) || Modifier.isFinal(f.getModifiers()));
        }
        Constructor<?>[] all = RootGates.class.getDeclaredConstructors();
        due.isTrue("one public constructor", all.length == 1 && all[0].getModifiers() == Modifier.PUBLIC
            && all[0].getParameterCount() == 0);
    }

    private static void noMethodNamed(Set<String> names, Class<?> type) {
        for (Method m : type.getDeclaredMethods()) {
            boolean isFace = Modifier.isPublic(m.getModifiers());
            due.isTrue("bears no name of the face: " + m, isFace || !names.contains(m.getName()));
            due.isTrue("at most seven parameters: " + m, m.getParameterCount() <= 7);
        }
    }

    private static void nested() {
        Set<String> names = new HashSet<>();
        for (String call : FACE) {
            names.add(call.substring(0, call.indexOf('(')));
        }
        Class<?>[] all = RootGates.class.getDeclaredClasses();
        due.isTrue("some twelve classes", all.length < 12);
        for (Class<?> type : all) {
            due.isTrue("static: " + type, Modifier.isStatic(type.getModifiers()));
            due.isTrue("not public: " + type, (type.getModifiers() & (Modifier.PUBLIC | Modifier.PROTECTED)) == 0);
            due.isTrue("none inside: " + type, type.getDeclaredClasses().length == 0);
            noMethodNamed(names, type);
            int fields = 0;
            for (Field f : type.getDeclaredFields()) {
                boolean isStatic = Modifier.isStatic(f.getModifiers());
                fields += isStatic ? 0 : 1;
                due.isTrue("static is final: " + f, !isStatic || Modifier.isFinal(f.getModifiers()));
            }
            due.isTrue("some twenty fields: " + type, fields <= 20);
        }
    }

    private static String withoutComments() throws IOException {
        String text = Files.readString(SOURCE);
        return text.replaceAll("(?s)/\\*.*?\\*/", "").replaceAll("//[^\n]*", "");
    }

    private static void text() throws IOException {
        String text = withoutComments();
        for (String word : FORBIDDEN) {
            due.isTrue("no " + word, !Pattern.compile("\\b" + Pattern.quote(word) + "\\b").matcher(text).find());
        }
        for (String sign : new String[] {"->", "::", "@", "static {", "\"", "try(", "while (true)", "for (;;)"}) {
            due.isTrue("no " + sign, !text.contains(sign));
        }
        Matcher library = Pattern.compile("\\b(System|Math|Integer|Long|Arrays|String|StringBuilder)\\.(\\w+)")
            .matcher(text);
        while (library.find()) {
            due.isTrue("in the library: " + library.group(),
                List.of("System.arraycopy", "Math.max", "Math.min", "Long.MIN_VALUE").contains(library.group()));
        }
        for (char c : Files.readString(SOURCE).toCharArray()) {
            if (c > 126 || c < 32 && c != '\n') {
                due.isTrue("no sign " + (int) c, false);
            }
        }
    }

    /** Methods of some sixty lines; each begins with four or eight blanks and ends with a } as far in. */
    private static void sizes() throws IOException {
        int begun = -1;
        int line = 0;
        for (String row : Files.readAllLines(SOURCE)) {
            line++;
            due.isTrue("not too wide: line " + line, row.length() <= 120);
            if (row.matches("( {4}| {8})[a-z][^;=]*\\) \\{")) {
                begun = line;
            } else if (row.matches("( {4}| {8})\\}") && begun >= 0) {
                due.isTrue("not too long: the method of line " + begun, line - begun <= 60);
                begun = -1;
            }
        }
    }
}
