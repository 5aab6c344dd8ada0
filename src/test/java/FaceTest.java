import java.lang.reflect.Constructor;
import java.lang.reflect.Field;
import java.lang.reflect.Method;
import java.lang.reflect.Modifier;
import java.nio.file.Files;
import java.nio.file.Path;
import java.util.ArrayList;
import java.util.List;
import java.util.TreeSet;
import java.util.regex.Matcher;
import java.util.regex.Pattern;

/** The class has the face that the document shows, and keeps to what LANGUAGE.md says of its text. */
public final class FaceTest {
    private static final Pattern SIGNATURE =
            Pattern.compile("public (\\w+) (\\w+)\\(([^)]*)\\)(?: throws ([^;]*))?;");

    public static void main(String[] args) throws Exception {
        Path root = Path.of(args.length == 0 ? "." : args[0]);
        face(Files.readString(root.resolve("../shared/DOC.md")));
        others();
        text(Files.readAllLines(root.resolve("src/main/java/LeadlightHall.java")));
        Check.end();
    }

    private static void face(String document) {
        TreeSet<String> due = new TreeSet<>();
        Matcher signature = SIGNATURE.matcher(document);
        while (signature.find()) {
            List<String> types = new ArrayList<>();
            for (String parameter : signature.group(3).split(", ")) {
                types.add(parameter.split(" ")[0]);
            }
            String thrown = signature.group(4) == null ? "" : signature.group(4);
            due.add(signature.group(1) + " " + signature.group(2) + "(" + String.join(", ", types) + ") " + thrown);
        }
        TreeSet<String> got = new TreeSet<>();
        for (Method method : LeadlightHall.class.getDeclaredMethods()) {
            if (Modifier.isPublic(method.getModifiers())) {
                got.add(method.getReturnType() + " " + method.getName() + "("
                        + names(method.getParameterTypes()) + ") " + names(method.getExceptionTypes()));
            }
        }
        Check.due("methods of the face in the document", due.size(), 43);
        Check.due("methods of the face", got, due);
    }

    private static String names(Class<?>[] types) {
        List<String> names = new ArrayList<>();
        for (Class<?> type : types) {
            names.add(type.getSimpleName());
        }
        return String.join(", ", names);
    }

    private static void others() {
        Check.due("class is public and final", LeadlightHall.class.getModifiers(), Modifier.PUBLIC | Modifier.FINAL);
        TreeSet<String> faceNames = new TreeSet<>();
        TreeSet<String> privateNames = new TreeSet<>();
        for (Method method : LeadlightHall.class.getDeclaredMethods()) {
            boolean isPublic = Modifier.isPublic(method.getModifiers());
            (isPublic ? faceNames : privateNames).add(method.getName());
            Check.due(method.getName() + " is public or private",
                    isPublic || Modifier.isPrivate(method.getModifiers()), true);
        }
        for (Constructor<?> constructor : LeadlightHall.class.getDeclaredConstructors()) {
            Check.due("constructor is public, without parameters", constructor.toString(), "public LeadlightHall()");
        }
        for (Field field : LeadlightHall.class.getDeclaredFields()) {
            Check.due(field.getName() + " is private", Modifier.isPrivate(field.getModifiers()), true);
        }
        Class<?>[] inner = LeadlightHall.class.getDeclaredClasses();
        Check.due("at most twelve classes", inner.length < 12, true);
        for (Class<?> type : inner) {
            Check.due(type.getName() + " is static", Modifier.isStatic(type.getModifiers()), true);
            for (Method method : type.getDeclaredMethods()) {
                privateNames.add(method.getName());
            }
            for (Field field : type.getDeclaredFields()) {
                boolean isStatic = Modifier.isStatic(field.getModifiers());
                Check.due(field.getName() + " is final if static",
                        !isStatic || Modifier.isFinal(field.getModifiers()), true);
            }
        }
        privateNames.retainAll(faceNames);
        Check.due("names of the face that others bear", privateNames, new TreeSet<String>());
    }

    private static void text(List<String> lines) {
        Pattern ruledOut = Pattern.compile("->|::|\\bcatch\\b|\\btry\\b|\\bfinally\\b|\\bsynchronized\\b|\\bassert\\b"
                + "|Exact\\(|static \\{|\\bpackage\\b|System\\.|\\bhashCode\\b|\\btoString\\b|@|\\bObject\\b|NaN");
        Pattern opens = Pattern.compile("^( {4}| {8})\\S.*[({,]$");
        int start = 0;
        for (int line = 0; line < lines.size(); line++) {
            String text = lines.get(line);
            int number = line + 1;
            Check.due("line " + number + " holds nothing ruled out", ruledOut.matcher(text).find(), false);
            Check.due("line " + number + " is of plain signs", text.chars().allMatch(c -> c < 128), true);
            if (text.startsWith("import")) {
                Check.due("import", text, "import java.util.NoSuchElementException;");
            }
            if (opens.matcher(text).find() && !text.contains(" class ")) {
                start = line;
            }
            if (text.equals("    }") || text.equals("        }")) {
                Check.due("method up to line " + number + " is short", line - start < 60, true);
            }
        }
    }
}
