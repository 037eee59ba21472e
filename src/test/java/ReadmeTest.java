import java.io.IOException;
import java.lang.reflect.Method;
import java.nio.file.Files;
import java.nio.file.Path;
import java.util.regex.Matcher;
import java.util.regex.Pattern;

/** The example of README.md is carried out, row by row: each call must answer the number that stands behind it. */
public final class ReadmeTest extends Asking {
    private static final Pattern CALL = Pattern.compile("(Double\\.longBitsToDouble\\()?x\\.(\\w+)\\((.*?)\\)\\)?; +// (-?[0-9.]+)(:.*)?");
    private static final Pattern FLOAT = Pattern.compile("Float\\.floatToRawIntBits\\((.*)f\\)?");

    private static int number(String text) {
        Matcher f = FLOAT.matcher(text);
        return f.matches() ? bits(Float.parseFloat(f.group(1))) : Integer.parseInt(text);
    }

    private static Object[] numbers(String text) {
        String[] texts = text.isEmpty() ? new String[0] : text.split(", ");
        Object[] numbers = new Object[texts.length];
        for (int i = 0; i < texts.length; i++) numbers[i] = number(texts[i]);
        return numbers;
    }

    private static Method called(String name) {
        for (Method m : WordChest.class.getDeclaredMethods()) {
            if (m.getName().equals(name)) return m;
        }
        throw new IllegalStateException("README.md has a call that there is not: " + name);
    }

    private static void carryOut(WordChest x, String row) throws ReflectiveOperationException {
        Matcher call = CALL.matcher(row);
        if (!call.matches()) {
            fault("a row that is no call with its answer: " + row);
            return;
        }
        long got = ((Number) called(call.group(2)).invoke(x, numbers(call.group(3)))).longValue();
        String answer = call.group(1) == null ? "" + got : "" + Double.longBitsToDouble(got);
        due(row, answer, call.group(4));
    }

    public static void main(String[] args) throws IOException, ReflectiveOperationException {
        WordChest x = null;
        boolean inExample = false;
        for (String row : Files.readAllLines(Path.of("README.md"))) {
            if (row.startsWith("```")) {
                inExample = row.equals("```java");
            } else if (inExample && row.equals("WordChest x = new WordChest();")) {
                x = new WordChest();
            } else if (inExample && !row.isEmpty() && !row.startsWith("//")) {
                carryOut(x, row);
            }
        }
        due("an example is there, 1 or 0", x != null ? 1 : 0, 1);
        end();
    }
}
