import java.lang.reflect.Method;
import java.nio.file.Files;
import java.nio.file.Path;
import java.util.regex.Matcher;
import java.util.regex.Pattern;

/** README.md's "Using it": each call there answers what its line says. */
final class ReadmeTest {
    private static final Pattern CALL = Pattern.compile("x\\.(\\w+)\\(([^)]*)\\);\\s*// (-?\\d+|true|false)\\b.*");
    private static final Pattern TAPE = Pattern.compile("tape\\(x, \"(.*)\"\\);");

    private CombTable x;
    private int answers = 0;

    private ReadmeTest() {
    }

    /** What stands in README's own function, so that a fault of it is seen here. */
    private static void tape(CombTable x, String text) {
        for (int i = 0; i < text.length(); i += 20) {
            int[] five = new int[5];
            for (int j = 0; j < 20; j++) {
                int c = i + j < text.length() ? text.charAt(i + j) : ' ';
                five[j / 4] = five[j / 4] << 8 | c;
            }
            x.feed(five[0], five[1], five[2], five[3], five[4]);
        }
        x.end(text.length());
    }

    private static Object[] numbers(String told) {
        String[] parts = told.isBlank() ? new String[0] : told.split(",");
        Object[] numbers = new Object[parts.length];
        for (int i = 0; i < parts.length; i++) {
            String part = parts[i].trim();
            numbers[i] = part.equals("CombTable.NONE") ? CombTable.NONE : Integer.parseInt(part);
        }
        return numbers;
    }

    private void line(String line) throws Exception {
        Matcher tape = TAPE.matcher(line);
        Matcher call = CALL.matcher(line);
        if (line.equals("CombTable x = new CombTable();")) {
            x = new CombTable();
        } else if (tape.matches()) {
            tape(x, tape.group(1));
        } else if (call.matches()) {
            Object[] numbers = numbers(call.group(2));
            Class<?>[] types = new Class<?>[numbers.length];
            java.util.Arrays.fill(types, int.class);
            Method method = CombTable.class.getMethod(call.group(1), types);
            Object got = method.invoke(x, numbers);
            Due.is("README: " + line + " (now " + got + ")", true, got.toString().equals(call.group(3)));
            answers++;
        } else {
            Due.is("README has a line that is not understood: " + line, 0, 1);
        }
    }

    private static String squeezed(String text) {
        return text.replaceAll("\\s+", " ");
    }

    private void go() throws Exception {
        String[] parts = Files.readString(Path.of("README.md")).split("```java\n");
        for (int i = 1; i < parts.length; i++) {
            String block = parts[i].split("```")[0];
            if (block.startsWith("static")) {
                String own = squeezed(Files.readString(Path.of("src/test/java/ReadmeTest.java")));
                Due.is("README's function stands here as it stands there", true, own.contains(squeezed(block)));
                continue;
            }
            for (String line : block.split("\n")) {
                line(line);
            }
        }
        Due.is("README has calls", true, answers > 30);
    }

    public static void main(String[] args) throws Exception {
        new ReadmeTest().go();
        Due.close("ReadmeTest");
    }
}
