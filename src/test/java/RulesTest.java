import java.lang.reflect.Constructor;
import java.lang.reflect.Field;
import java.lang.reflect.Method;
import java.lang.reflect.Modifier;
import java.nio.file.Files;
import java.nio.file.Path;
import java.util.Arrays;
import java.util.List;
import java.util.Set;
import java.util.TreeSet;
import java.util.regex.Matcher;
import java.util.regex.Pattern;

/** What of LANGUAGE.md can be seen from the class's text and from its face. */
final class RulesTest {
    private static final List<String> FACE = Arrays.asList("feed", "end", "table", "fault", "rank", "kind", "say",
        "wrong", "may", "undo", "talk", "why", "word", "threads", "thread", "with", "promised", "minutes", "wholes",
        "sure", "hangs", "mend", "mended", "orders", "orderAt", "drawn", "spoke", "road", "without", "game", "found",
        "unlike", "sentence", "said", "image", "restore", "count");
    private static final List<String> LIBRARY = Arrays.asList("Integer.bitCount", "Math.max", "Math.min",
        "System.arraycopy");
    private static final String[] BANNED = {"->", "::", "\\bimport (?!java\\.util\\.NoSuchElementException;)",
        "\\btry\\b", "\\bcatch\\b", "\\bfinally\\b", "\\bsynchronized\\b", "\\bassert\\b", "\\bThread\\.", "\\bclass\\s+\\w+\\s*\\{.*\\bstatic\\s*\\{",
        "\\.equals\\(", "hashCode", "toString", "Exact\\(", "System\\.(?!arraycopy)", "\\bnew \\w+\\[.*\\]\\s*\\{",
        "\\bdouble\\b", "\\bfloat\\b", "\\bwhile \\(true\\)", "\\bfor \\(;;"};

    private RulesTest() {
    }

    private static void face() {
        Class<?> face = CombTable.class;
        Due.is("public and final", Modifier.PUBLIC | Modifier.FINAL, face.getModifiers());
        Set<String> open = new TreeSet<>();
        for (Method method : face.getDeclaredMethods()) {
            boolean hidden = Modifier.isPrivate(method.getModifiers());
            if (!hidden) {
                open.add(method.getName());
            }
            Due.is("a private " + method.getName(), 0, hidden && FACE.contains(method.getName()) ? 1 : 0);
            Due.is("parameters of " + method.getName(), 1, method.getParameterCount() <= 7 ? 1 : 0);
        }
        Due.is("the face is " + open, open.equals(new TreeSet<>(FACE)), true);
        for (Field field : face.getDeclaredFields()) {
            boolean isNone = field.getName().equals("NONE");
            Due.is("field " + field.getName(), isNone, !Modifier.isPrivate(field.getModifiers()));
        }
        Constructor<?>[] constructors = face.getDeclaredConstructors();
        Due.is("one constructor", 1, constructors.length);
        Class<?>[] inside = face.getDeclaredClasses();
        Due.is("some twelve classes", 1, inside.length <= 11 ? 1 : 0);
        for (Class<?> one : inside) {
            int fields = 0;
            for (Field field : one.getDeclaredFields()) {
                boolean fixed = Modifier.isStatic(field.getModifiers());
                fields += fixed ? 0 : 1;
                Due.is("static and final: " + field, 1, !fixed || Modifier.isFinal(field.getModifiers()) ? 1 : 0);
            }
            Due.is("fields of " + one.getName(), 1, fields <= 20 ? 1 : 0);
            Due.is("static: " + one, 1, Modifier.isStatic(one.getModifiers()) ? 1 : 0);
            for (Method method : one.getDeclaredMethods()) {
                Due.is("a name of the face: " + method, 0, FACE.contains(method.getName()) ? 1 : 0);
                Due.is("parameters of " + method, 1, method.getParameterCount() <= 7 ? 1 : 0);
            }
        }
    }

    private static void text() throws Exception {
        String text = Files.readString(Path.of("src/main/java/CombTable.java"));
        String bare = text.replaceAll("(?s)/\\*.*?\\*/", "").replaceAll("//[^\n]*", "");
        for (String banned : BANNED) {
            Matcher matcher = Pattern.compile(banned).matcher(bare);
            Due.is("nothing like " + banned, 0, matcher.find() ? 1 : 0);
        }
        Matcher library = Pattern.compile("\\b(Byte|Short|Character|Integer|Long|Math|System|Arrays|List|Object)\\b(\\.\\w+)?")
            .matcher(bare);
        while (library.find()) {
            Due.is("the library has " + library.group(), true, LIBRARY.contains(library.group()));
        }
        int length = 0;
        for (String line : bare.split("\n")) {
            length = line.matches(" {4,8}\\S.*\\) (throws \\w+ )?\\{") ? 0 : length + 1;
            Due.is("a method of some sixty lines", 1, line.matches(" {4,8}\\}") && length > 60 ? 0 : 1);
            Due.is("signs of the text", 1, line.matches("[ -~]*") ? 1 : 0);
        }
    }

    public static void main(String[] args) throws Exception {
        face();
        text();
        Due.close("RulesTest");
    }
}
