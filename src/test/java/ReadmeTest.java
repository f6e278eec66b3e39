import java.lang.reflect.Method;
import java.nio.file.Files;
import java.nio.file.Path;
import java.util.regex.Matcher;
import java.util.regex.Pattern;

/** README.md: each call of its example answers what stands behind it, and each call of the face is named. */
public final class ReadmeTest {
    private static final Pattern TEXT = Pattern.compile("\"([^\"]*)\"");
    private static final Pattern CALL = Pattern.compile("\nx\\.([a-z]+)\\(([-0-9, ]*)\\); *// (-?[0-9]+|true|false): ");

    private ReadmeTest() {
    }

    public static void main(String[] args) throws Exception {
        String readme = Files.readString(Path.of("README.md"));
        String example = partBetween(readme, "BlissMarket x = new BlissMarket();\n", "```");
        BlissMarket x = new BlissMarket();
        Due.feed(x, Due.bytes(textOf(partBetween(example, "put(x, ", ");\n"))));
        answers(x, example);
        namesAll(partBetween(readme, "| what for | calls |", "\n\n"));
        Due.close("ReadmeTest");
    }

    private static String partBetween(String all, String first, String behind) {
        int from = all.indexOf(first);
        int to = all.indexOf(behind, from + first.length());
        Due.is("README.md has <" + first + ">", from >= 0 && to >= 0, true);
        return from >= 0 && to >= 0 ? all.substring(from + first.length(), to) : "";
    }

    private static String textOf(String lines) {
        StringBuilder text = new StringBuilder();
        for (Matcher m = TEXT.matcher(lines); m.find();) {
            text.append(m.group(1));
        }
        return text.toString();
    }

    private static void answers(BlissMarket x, String example) throws Exception {
        int calls = 0;
        for (Matcher m = CALL.matcher(example); m.find();) {
            calls++;
            Due.is(m.group(1) + "(" + m.group(2) + ")", number(ask(x, m.group(1), m.group(2))), number(m.group(3)));
        }
        Due.is("no call without its answer", calls, example.split("\nx\\.", -1).length - 1);
        Due.is("there are calls", calls > 0, true);
    }

    private static String ask(BlissMarket x, String call, String numbers) throws Exception {
        String[] told = numbers.isEmpty() ? new String[0] : numbers.split(", ");
        Class<?>[] types = new Class<?>[told.length];
        Object[] values = new Object[told.length];
        for (int k = 0; k < told.length; k++) {
            types[k] = int.class;
            values[k] = Integer.parseInt(told[k]);
        }
        return String.valueOf(BlissMarket.class.getMethod(call, types).invoke(x, values));
    }

    private static int number(String answer) {
        return answer.equals("true") ? 1 : answer.equals("false") ? 0 : Integer.parseInt(answer);
    }

    private static void namesAll(String table) {
        for (Method m : BlissMarket.class.getDeclaredMethods()) {
            if ((m.getModifiers() & java.lang.reflect.Modifier.PUBLIC) != 0) {
                Due.is("the table names " + m.getName(), Pattern.compile("\\b" + m.getName() + "\\b").matcher(table).find(), true);
            }
        }
    }
}
