import java.lang.reflect.Method;
import java.lang.reflect.Modifier;
import java.nio.file.Files;
import java.nio.file.Path;
import java.util.List;
import java.util.regex.Matcher;
import java.util.regex.Pattern;

/** What README.md says of the calls: its example is gone through line by line, and it names them all. */
public final class Readme {
    private static final String FIRST = "VillageRounds x = new VillageRounds();";
    private static final Pattern CALL = Pattern.compile("x\\.(\\w+)\\(([^)]*)\\); +// (-?\\d+)(:.*)?");

    public static void main(String[] args) throws Exception {
        Check check = new Check();
        List<String> lines = Files.readAllLines(Path.of("README.md"));
        int from = lines.indexOf("```java") + 1;
        int end = from + lines.subList(from, lines.size()).indexOf("```");
        check.due("the example begins with a new object", lines.get(from).equals(FIRST) ? 1 : 0, 1);
        VillageRounds x = new VillageRounds();
        for (String line : lines.subList(from + 1, end)) {
            follow(check, x, line);
        }
        StringBuilder table = new StringBuilder();
        for (String line : lines.subList(end, lines.size())) {
            table.append(line.startsWith("| `") ? line : "");
        }
        for (Method call : VillageRounds.class.getDeclaredMethods()) {
            if (Modifier.isPublic(call.getModifiers())) {
                check.due(call.getName() + " is in the table", table.indexOf("`" + call.getName() + "`") < 0 ? 0 : 1, 1);
            }
        }
        check.end("Readme");
    }

    private static void follow(Check check, VillageRounds x, String line) throws Exception {
        Matcher matcher = CALL.matcher(line);
        if (!matcher.matches()) {
            check.fail("no call with its answer: " + line);
            return;
        }
        String[] told = matcher.group(2).isEmpty() ? new String[0] : matcher.group(2).split(", ");
        for (Method call : VillageRounds.class.getDeclaredMethods()) {
            if (Modifier.isPublic(call.getModifiers()) && call.getName().equals(matcher.group(1))) {
                long answer = ((Number) call.invoke(x, numbers(call.getParameterTypes(), told))).longValue();
                check.due(line, answer, Long.parseLong(matcher.group(3)));
                return;
            }
        }
        check.fail("there is no such call: " + line);
    }

    private static Object[] numbers(Class<?>[] types, String[] told) {
        Object[] numbers = new Object[told.length];
        for (int i = 0; i < told.length; i++) {
            long n = Long.decode(told[i].replace("L", ""));
            numbers[i] = i < types.length && types[i] == int.class ? (Object) (int) n : (Object) n;
        }
        return numbers;
    }
}
