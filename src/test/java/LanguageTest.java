import java.lang.reflect.Array;
import java.lang.reflect.Field;
import java.lang.reflect.Modifier;
import java.nio.file.Files;
import java.nio.file.Path;
import java.util.List;
import java.util.regex.Matcher;
import java.util.regex.Pattern;

/** The rules of LANGUAGE.md that can be seen from the lines of the class. */
public final class LanguageTest {
    private static final Checks checks = new Checks();
    private static final String EXCEPTIONS = "(IllegalState|IllegalArgument|IndexOutOfBounds|Arithmetic|UnsupportedOperation|NoSuchElement"
        + "|Runtime)Exception";
    private static final String[] BANNED = {"^(?!\\s*(case|default)\\b).*->", "::", "\\bfinally\\b", "\\bsynchronized\\b", "\\bassert\\b",
        "\\bprotected\\b", "Exact\\(", "\\bhashCode\\b", "getMessage", "printStackTrace", "System\\.(?!arraycopy)",
        "Math\\.(random|sqrt|cbrt|pow|exp|log|sin|cos|tan|rint|round|ceil\\(|floor\\()", "\\bRandom\\b", "\\bThread\\b",
        "(Integer|Long)\\.(parse|decode|to[A-Z]|get)", "Arrays\\.(?!fill|copyOf)", "\" *\\+|\\+ *\"",
        "^import (?!java\\.util\\.(ArrayList|Arrays|Iterator|List|NoSuchElementException);)", "catch \\((?!" + EXCEPTIONS + " )",
        "throw (?!new " + EXCEPTIONS + "\\()", "\\bstatic \\{", "[^\\x00-\\x7f]", "^package "};

    public static void main(String[] args) throws Exception {
        List<String> lines = Files.readAllLines(Path.of("src/main/java/GuestStars.java"));
        int classes = 0;
        int opened = -1;
        for (int k = 0; k < lines.size(); k++) {
            String line = lines.get(k);
            String code = line.replaceAll("//.*|/\\*\\*.*", "");
            for (String banned : BANNED) {
                Matcher found = Pattern.compile(banned).matcher(code);
                checks.due("line " + (k + 1) + " has " + banned, found.find(), false);
            }
            if (code.matches(".*\\bclass [A-Z].*")) {
                classes++;
            }
            if (code.matches("    (    )?[a-zA-Z].*\\) (throws .*)?\\{")) {
                opened = k;
                checks.due("line " + (k + 1) + ": seven parameters", code.split(",").length <= 7, true);
            }
            if (code.matches("    (    )?\\}") && opened >= 0) {
                checks.due("line " + (opened + 1) + ": some sixty lines", k - opened <= 65, true);
                opened = -1;
            }
        }
        checks.due("some twelve classes", classes <= 12, true);
        fields(GuestStars.class);
        for (Class<?> inside : GuestStars.class.getDeclaredClasses()) {
            fields(inside);
        }
        references();
        checks.finish("LanguageTest");
    }

    private static void fields(Class<?> of) {
        int fields = 0;
        for (Field field : of.getDeclaredFields()) {
            fields += Modifier.isStatic(field.getModifiers()) ? 0 : 1;
            checks.due("a static field is final: " + field,
                !Modifier.isStatic(field.getModifiers()) || Modifier.isFinal(field.getModifiers()), true);
        }
        checks.due("some twenty fields of " + of, fields <= 20, true);
    }

    /** Rule 7: no reference is null at any time, so that none has to be looked at; new, behind a fault, behind a text. */
    private static void references() throws Exception {
        GuestStars stars = new GuestStars();
        noneIsNull("new", stars, 0);
        checks.due("a fault", Checks.tell(stars, "turn 60;"), -1);
        noneIsNull("behind a fault", stars, 0);
        checks.due("a text", Checks.tell(stars, "turn 59;"), 1);
        noneIsNull("behind a text", stars, 0);
    }

    private static void noneIsNull(String when, Object object, int depth) throws Exception {
        checks.due("the objects end", depth < 10, true);
        if (object.getClass().isArray()) {
            for (int k = 0; k < Array.getLength(object) && !object.getClass().getComponentType().isPrimitive(); k++) {
                reached(when + ", element " + k, Array.get(object, k), depth);
            }
            return;
        }
        for (Field field : object.getClass().getDeclaredFields()) {
            if (!Modifier.isStatic(field.getModifiers()) && !field.getType().isPrimitive()) {
                field.setAccessible(true);
                reached(when + ", " + field.getName(), field.get(object), depth);
            }
        }
    }

    private static void reached(String where, Object object, int depth) throws Exception {
        checks.due("null: " + where, object == null, false);
        if (object != null && depth < 10) {
            noneIsNull(where, object, depth + 1);
        }
    }
}
