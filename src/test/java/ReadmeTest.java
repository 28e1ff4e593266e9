import java.io.IOException;
import java.lang.reflect.Method;
import java.nio.file.Files;
import java.nio.file.Path;
import java.util.Set;
import java.util.TreeSet;
import java.util.regex.Matcher;
import java.util.regex.Pattern;

/** README.md's house and its tables of calls are one run on one object: each answer is as it says there. */
public final class ReadmeTest {
    private static final Check CHECK = new Check();
    private static final Pattern ROW = Pattern.compile("(?m)^\\| `(\\w+)\\(([^)]*)\\)` \\| (-?\\d+|true|false) \\|");
    private static final Pattern HOUSE = Pattern.compile("(?s)```text\n(notes .*?)```");

    public static void main(String[] args) throws IOException, ReflectiveOperationException {
        String text = Files.readString(Path.of("README.md"));
        Matcher house = HOUSE.matcher(text);
        CHECK.due("there is a house", house.find(), true);
        TuneDoor door = new TuneDoor();
        Check.tape(door, house.group(1));
        Set<String> shown = new TreeSet<>();
        Matcher row = ROW.matcher(text);
        while (row.find()) {
            shown.add(row.group(1));
            String call = row.group(1) + "(" + row.group(2) + ")";
            CHECK.due(call, number(answer(door, row.group(1), row.group(2))), number(row.group(3)));
        }
        for (Method method : TuneDoor.class.getMethods()) {
            if (method.getDeclaringClass() == TuneDoor.class) {
                CHECK.due(method.getName() + " is shown", shown.contains(method.getName()), true);
            }
        }
        CHECK.close();
    }

    private static long number(String answer) {
        return answer.equals("true") ? 1 : answer.equals("false") ? 0 : Long.parseLong(answer);
    }

    private static String answer(TuneDoor door, String name, String numbers) throws ReflectiveOperationException {
        Object[] values = numbers.isEmpty() ? new Object[0]
            : Pattern.compile(", ").splitAsStream(numbers).map(Integer::valueOf).toArray();
        for (Method method : TuneDoor.class.getMethods()) {
            if (method.getName().equals(name) && method.getParameterCount() == values.length) {
                return String.valueOf(method.invoke(door, values));
            }
        }
        throw new IllegalStateException("no such call: " + name);
    }
}
