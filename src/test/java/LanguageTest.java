import java.lang.reflect.Field;
import java.lang.reflect.Method;
import java.lang.reflect.Modifier;
import java.nio.file.Files;
import java.nio.file.Path;
import java.util.ArrayList;
import java.util.List;
import java.util.regex.Matcher;
import java.util.regex.Pattern;

/** LANGUAGE.md's rules as far as they can be seen in the file's words and in the compiled classes. */
public final class LanguageTest {
    private static final String[] NEVER = {"package", "synchronized", "assert", "finally", "try", "catch", "volatile",
        "transient", "native", "strictfp", "float", "double", "Object", "System", "Random", "Thread", "hashCode",
        "toString", "equals", "var", "protected"};
    private static final int MOST_LINES_OF_A_METHOD = 60;
    private static final Check CHECK = new Check("LanguageTest");

    public static void main(String[] args) throws Exception {
        String file = Files.readString(Path.of("src/main/java/ShoreDay.java"));
        signs(file);
        String bare = withoutTextsAndComments(file);
        words(bare);
        exceptions(bare);
        methodLengths(bare);
        List<Class<?>> classes = new ArrayList<>(List.of(ShoreDay.class.getDeclaredClasses()));
        classes.add(ShoreDay.class);
        for (Class<?> each : classes) {
            fields(each);
            methods(each);
        }
        CHECK.end();
    }

    private static void signs(String file) {
        boolean plain = file.chars().allMatch(sign -> sign == '\n' || sign >= 32 && sign < 127);
        CHECK.yes("signs are 32 to 126 and ends of lines", plain);
    }

    private static String withoutTextsAndComments(String file) {
        return file.replaceAll("\"[^\"\n]*\"", "\"\"").replaceAll("'[^']'", "0").replaceAll("//[^\n]*", "")
                .replaceAll("(?s)/\\*.*?\\*/", "");
    }

    private static void words(String bare) {
        for (String word : NEVER) {
            CHECK.no("the word " + word, Pattern.compile("\\b" + word + "\\b").matcher(bare).find());
        }
        CHECK.no("a lambda or a method reference", bare.contains("->") || bare.contains("::"));
        CHECK.no("a static block", Pattern.compile("static\\s*\\{").matcher(bare).find());
        CHECK.no("an array of two dimensions", bare.contains("[][]"));
        Matcher imports = Pattern.compile("import [^;]+;").matcher(bare);
        while (imports.find()) {
            CHECK.yes(imports.group(), imports.group().equals("import java.util.NoSuchElementException;"));
        }
    }

    /** The document names one exception, and one call that throws it. */
    private static void exceptions(String bare) {
        int begin = bare.indexOf("public int look(");
        int end = bare.indexOf("public int lies(");
        Matcher thrown = Pattern.compile("\\bthrow\\b[^;]*;").matcher(bare);
        while (thrown.find()) {
            CHECK.yes(thrown.group() + " is the document's", thrown.group().startsWith("throw new NoSuchElementException("));
            CHECK.yes(thrown.group() + " is in look", thrown.start() > begin && thrown.start() < end);
        }
    }

    /** A method begins at a line with a bracket behind its parameters, and ends at the bracket as far in as it. */
    private static void methodLengths(String bare) {
        String[] lines = bare.split("\n");
        Pattern head = Pattern.compile("( {4}| {8})[a-zA-Z][^=;]*\\) *(throws \\w+ )?\\{");
        for (int i = 0; i < lines.length; i++) {
            Matcher begin = head.matcher(lines[i]);
            if (begin.matches() && !lines[i].trim().matches("(if|for|while|switch|}).*")) {
                int end = i;
                while (end < lines.length && !lines[end].equals(begin.group(1) + "}")) {
                    end++;
                }
                CHECK.yes(lines[i].trim() + " has " + (end - i + 1) + " lines", end - i < MOST_LINES_OF_A_METHOD);
            }
        }
    }

    private static void fields(Class<?> each) {
        int own = 0;
        for (Field field : each.getDeclaredFields()) {
            int modifiers = field.getModifiers();
            if (Modifier.isStatic(modifiers)) {
                CHECK.yes(each.getName() + "." + field.getName() + " is final", Modifier.isFinal(modifiers));
                CHECK.yes(each.getName() + "." + field.getName() + " is a number", field.getType() == int.class);
            } else {
                own++;
            }
        }
        CHECK.yes(each.getName() + " has " + own + " fields", own <= 20);
    }

    private static void methods(Class<?> each) {
        for (Method method : each.getDeclaredMethods()) {
            CHECK.yes(method + " has seven parameters at most", method.getParameterCount() <= 7);
        }
    }
}
