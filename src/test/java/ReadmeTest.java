import java.io.IOException;
import java.lang.reflect.InvocationTargetException;
import java.lang.reflect.Method;
import java.lang.reflect.Modifier;
import java.nio.file.Files;
import java.nio.file.Path;
import java.util.ArrayList;
import java.util.Arrays;
import java.util.List;
import java.util.regex.Matcher;
import java.util.regex.Pattern;

/** The example of README.md: its answers are true, its bytes are those of the program that it shows, no call is missing. */
public final class ReadmeTest {
    private static final Pattern CALL = Pattern.compile("x\\.(\\w+)\\((.*)\\); *// (-?\\w+)(:.*)?");

    public static void main(String[] args) throws IOException, ReflectiveOperationException {
        String text = Files.readString(Path.of("README.md"));
        List<String> example = block(text, "java");
        answersAreTrue(example);
        bytesAreTheProgram(example, String.join("\n", block(text, "text")));
        noCallIsMissing(text, String.join("\n", example));
        Kit.finish();
    }

    private static List<String> block(String text, String kind) {
        String[] parts = text.split("```" + kind + "\n", -1);
        Kit.due("blocks of " + kind, parts.length, 2);
        return Arrays.asList(parts[1].split("```")[0].split("\n"));
    }

    private static void answersAreTrue(List<String> example) throws ReflectiveOperationException {
        Kit.due("the first line", example.get(0), "ShrinkHouse x = new ShrinkHouse();");
        ShrinkHouse x = new ShrinkHouse();
        for (String line : example.subList(1, example.size())) {
            Matcher call = CALL.matcher(line);
            Kit.due("a call with its answer: " + line, call.matches(), true);
            Kit.due(line, answer(x, call.group(1), call.group(2)), call.group(3));
        }
    }

    private static String answer(ShrinkHouse x, String name, String words) throws ReflectiveOperationException {
        for (Method method : ShrinkHouse.class.getMethods()) {
            if (method.getName().equals(name) && method.getDeclaringClass() == ShrinkHouse.class) {
                try {
                    return String.valueOf(method.invoke(x, arguments(words)));
                } catch (InvocationTargetException e) {
                    return "throws." + e.getCause().getClass().getSimpleName();
                }
            }
        }
        return "no such call";
    }

    private static Object[] arguments(String words) {
        List<Object> row = new ArrayList<>();
        for (String word : words.split(", *")) {
            if (word.equals("true") || word.equals("false")) {
                row.add(Boolean.valueOf(word));
            } else if (!word.isEmpty()) {
                row.add(Integer.decode(word));
            }
        }
        return row.toArray();
    }

    private static void bytesAreTheProgram(List<String> example, String source) {
        StringBuilder fed = new StringBuilder();
        int length = 0;
        for (String line : example) {
            Matcher call = CALL.matcher(line);
            if (call.matches() && call.group(1).equals("feed")) {
                fed.append(call.group(2).replaceAll("0x|, ", ""));
            } else if (call.matches() && call.group(1).equals("end")) {
                length = Integer.parseInt(call.group(2));
            }
        }
        StringBuilder due = new StringBuilder();
        for (int value : Kit.bytes(source)) {
            due.append(String.format("%02x", value));
        }
        Kit.due("the bytes", fed.substring(0, Math.min(fed.length(), 2 * length)), due.toString());
    }

    private static void noCallIsMissing(String text, String example) {
        for (Method method : ShrinkHouse.class.getDeclaredMethods()) {
            if (Modifier.isPublic(method.getModifiers())) {
                String name = method.getName();
                Kit.due(name + ": a row of the table", text.contains("| `" + name + "("), true);
                Kit.due(name + ": in the example", example.contains("x." + name + "("), true);
            }
        }
    }
}
