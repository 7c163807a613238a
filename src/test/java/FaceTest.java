import java.io.IOException;
import java.lang.reflect.Constructor;
import java.lang.reflect.Field;
import java.lang.reflect.Method;
import java.lang.reflect.Modifier;
import java.nio.file.Files;
import java.nio.file.Path;
import java.util.TreeSet;
import java.util.regex.Matcher;
import java.util.regex.Pattern;

/** The public face as the document writes it out, and that of the class: they are the same. */
public final class FaceTest {
    private static final Path DOCUMENT = Path.of("../shared/DOC.md");
    private static final Pattern FACE = Pattern.compile("(?s)## The public face\\s+```java\\s+"
        + "public final class RootGates \\{(.*?)\\}\\s+```");
    private static final Pattern CONSTANTS = Pattern.compile("public static final (int|long) ([^;]*);");
    private static final Pattern CALL = Pattern.compile("public (?:(int|long) )?(\\w+)\\(([^)]*)\\);");
    private static final Due due = new Due();

    public static void main(String[] args) throws IOException {
        due.isTrue("public and final, no more", RootGates.class.getModifiers() == (Modifier.PUBLIC | Modifier.FINAL));
        due.isTrue("no package", RootGates.class.getPackageName().isEmpty());
        if (Files.isReadable(DOCUMENT)) {
            Matcher face = FACE.matcher(Files.readString(DOCUMENT));
            due.isTrue("the document writes a face", face.find());
            due.isText("the face", faceOfClass().toString(), faceOfDocument(face.group(1)).toString());
        } else {
            System.out.println("no " + DOCUMENT + " here: LanguageTest alone looks at the face");
        }
        due.end();
    }

    private static TreeSet<String> faceOfDocument(String text) {
        TreeSet<String> face = new TreeSet<>();
        Matcher constants = CONSTANTS.matcher(text);
        while (constants.find()) {
            for (String constant : constants.group(2).split(", ")) {
                String value = constant.replace("Long.MIN_VALUE", String.valueOf(Long.MIN_VALUE));
                face.add(constants.group(1) + " " + value);
            }
        }
        Matcher call = CALL.matcher(text);
        while (call.find()) {
            String types = call.group(3).replaceAll("(\\w+) \\w+", "$1").replace(" ", "");
            face.add((call.group(1) == null ? "new" : call.group(1)) + " " + call.group(2) + "(" + types + ")");
        }
        return face;
    }

    private static TreeSet<String> faceOfClass() {
        TreeSet<String> face = new TreeSet<>();
        for (Field f : RootGates.class.getDeclaredFields()) {
            if (!Modifier.isPrivate(f.getModifiers())) {
                boolean isConstant = f.getModifiers() == (Modifier.PUBLIC | Modifier.STATIC | Modifier.FINAL);
                face.add(f.getType() + " " + f.getName() + " = " + (isConstant ? valueOf(f) : "?"));
            }
        }
        for (Constructor<?> c : RootGates.class.getDeclaredConstructors()) {
            if (!Modifier.isPrivate(c.getModifiers())) {
                face.add("new " + c.getName() + "(" + typesOf(c.getParameterTypes()) + ")");
            }
        }
        for (Method m : RootGates.class.getDeclaredMethods()) {
            if (!Modifier.isPrivate(m.getModifiers())) {
                String other = m.getModifiers() == Modifier.PUBLIC ? "" : Modifier.toString(m.getModifiers()) + " ";
                face.add(other + m.getReturnType() + " " + m.getName() + "(" + typesOf(m.getParameterTypes()) + ")");
            }
        }
        return face;
    }

    private static String valueOf(Field constant) {
        try {
            return String.valueOf(constant.getLong(null));
        } catch (IllegalAccessException e) {
            return e.getMessage();
        }
    }

    private static String typesOf(Class<?>[] types) {
        StringBuilder text = new StringBuilder();
        for (Class<?> type : types) {
            text.append(text.length() == 0 ? "" : ",").append(type.getName());
        }
        return text.toString();
    }
}
