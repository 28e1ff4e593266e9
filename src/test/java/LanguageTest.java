import java.io.IOException;
import java.lang.reflect.Constructor;
import java.lang.reflect.Field;
import java.lang.reflect.Method;
import java.lang.reflect.Modifier;
import java.nio.file.Files;
import java.nio.file.Path;
import java.util.Set;
import java.util.TreeSet;
import java.util.regex.Matcher;
import java.util.regex.Pattern;

/** The public face, and those rules of LANGUAGE.md that a look at the file can tell. */
public final class LanguageTest {
    private static final String FACE = "apart bears bird come cost door ear end fault feed find has house image knows "
        + "letter likely listen lost mend near nights note octet on opened person right round same seed slip "
        + "status stranger sure tells waste would";
    private static final Check CHECK = new Check();

    public static void main(String[] args) throws IOException {
        face();
        nested();
        text(Files.readString(Path.of("src/main/java/TuneDoor.java")));
        CHECK.close();
    }

    private static void face() {
        Set<String> open = new TreeSet<>();
        for (Method method : TuneDoor.class.getDeclaredMethods()) {
            boolean hidden = Modifier.isPrivate(method.getModifiers());
            if (!hidden) {
                CHECK.due(method.getName() + " is public", Modifier.isPublic(method.getModifiers()), true);
                open.add(method.getName());
            } else {
                CHECK.due(method.getName() + " bears a public name", FACE.matches(".*\\b" + method.getName() + "\\b.*"), false);
            }
        }
        CHECK.due("the face is " + String.join(" ", open), String.join(" ", open).equals(FACE), true);
        for (Field field : TuneDoor.class.getDeclaredFields()) {
            boolean none = field.getName().equals("NONE");
            CHECK.due(field.getName() + " is private", Modifier.isPrivate(field.getModifiers()), !none);
        }
        Constructor<?>[] made = TuneDoor.class.getDeclaredConstructors();
        CHECK.due("constructors", made.length, 1);
        CHECK.due("TuneDoor is final", Modifier.isFinal(TuneDoor.class.getModifiers()), true);
    }

    private static void nested() {
        Class<?>[] inside = TuneDoor.class.getDeclaredClasses();
        CHECK.due("at most twelve classes", inside.length + 1 <= 12, true);
        for (Class<?> one : inside) {
            CHECK.due(one + " is static", Modifier.isStatic(one.getModifiers()), true);
            int fields = 0;
            for (Field field : one.getDeclaredFields()) {
                boolean constant = Modifier.isStatic(field.getModifiers());
                CHECK.due(field + " is final where static", !constant || Modifier.isFinal(field.getModifiers()), true);
                fields += constant ? 0 : 1;
            }
            CHECK.due(one + " has at most twenty fields", fields <= 20, true);
            for (Method method : one.getDeclaredMethods()) {
                CHECK.due(method + " bears a public name", FACE.matches(".*\\b" + method.getName() + "\\b.*"), false);
                CHECK.due(method + " has at most seven parameters", method.getParameterCount() <= 7, true);
            }
        }
    }

    private static void text(String text) {
        String code = text.replaceAll("(?s)/\\*.*?\\*/", "").replaceAll("//[^\n]*", "").replaceAll("\"[^\"]*\"", "\"\"");
        for (String word : "throw try catch synchronized assert package double float lambda System Object".split(" ")) {
            CHECK.due("uses " + word, Pattern.compile("\\b" + word + "\\b").matcher(code).find(), false);
        }
        for (String sign : new String[] {"->", "::", "Exact", "\" +", "+ \""}) {
            CHECK.due("uses " + sign, code.contains(sign), false);
        }
        Matcher imports = Pattern.compile("import ([^;]*);").matcher(code);
        while (imports.find()) {
            CHECK.due("import " + imports.group(1), imports.group(1).equals("java.util.Arrays"), true);
        }
        for (char sign : text.toCharArray()) {
            CHECK.due("sign " + (int) sign, sign >= 1 && sign <= 127, true);
        }
        methodsAreShort(text);
    }

    private static void methodsAreShort(String text) {
        String[] lines = text.split("\n");
        for (int i = 0; i < lines.length; i++) {
            String indent = lines[i].replaceAll("\\S.*", "");
            if (lines[i].matches(" +[a-zA-Z].*\\) \\{") && !lines[i].matches(" +(if|for|while|switch|else|do)\\b.*")) {
                int end = i;
                while (!lines[end].equals(indent + "}")) {
                    end++;
                }
                CHECK.due("lines of " + lines[i].trim(), end - i <= 60, true);
            }
        }
    }
}
