import java.lang.reflect.Method;
import java.nio.file.Files;
import java.nio.file.Path;
import java.util.Map;
import java.util.Set;
import java.util.TreeMap;
import java.util.TreeSet;
import java.util.regex.Matcher;
import java.util.regex.Pattern;

/** README.md: that it has every call and its REFUSALS, and that its example answers as it says. Runs in the project's folder. */
public final class ReadmeTest {
    private static final Check CHECK = new Check("ReadmeTest");
    /** Each call as the document's face names it, and the REFUSALS that its promise tells, in their order. */
    private static final String[] CALLS = {
        "letter(c) -4 -6", "hall()", "player(player, what) -1 -2", "ball(ball, what) -1 -2", "odds(who, whom, how, end) -1 -2 -3",
        "throwIt(ball, whom, how, end) -1 -2 -3 -6", "take(player, ball) -1 -3 -6", "pass(n) -4 -6", "best(player, what) -1 -2 -3",
        "two(one, other, whom, how) -1 -2 -3", "worth(player) -1 -3", "duel(a, b, h, c, n, what) -4 -6 -2", "game(who, whom, part) -1 -2 -3",
        "row(v) -4 -6", "judge()", "ends()", "clear()", "whose(player) -1 -3", "waits(side, place) -1 -4 -6", "lots(n, z) -4 -6 -3",
        "image()", "on() -3", "count(what)"};
    private static final Pattern ROW = Pattern.compile("\\| `(\\w+\\([^)]*\\))` \\| [^|]+ \\| ([^|]+) \\|");
    private static final Pattern EXAMPLE = Pattern.compile("hall\\.(\\w+)\\(([-0-9, ]*)\\); +// (-?[0-9]+)\\b.*");

    public static void main(String[] args) throws Exception {
        String page = Files.readString(Path.of("README.md"));
        everyCallHasARow(page);
        everyTestIsNamed(page);
        exampleAnswersAsItSays(between(page, "```java\n", "```"));
        CHECK.end();
    }

    private static String between(String text, String first, String last) {
        int from = text.indexOf(first) + first.length();
        return text.substring(from, text.indexOf(last, from));
    }

    private static void everyCallHasARow(String page) {
        Map<String, String> told = new TreeMap<>();
        for (String line : page.split("\n")) {
            Matcher row = ROW.matcher(line);
            if (row.matches()) {
                CHECK.holds(row.group(1) + " has one row", told.put(row.group(1), refusalsIn(row.group(2))) == null);
            }
        }
        for (String call : CALLS) {
            int end = call.indexOf(')') + 1;
            CHECK.holds("a row of " + call + ", not " + told.get(call.substring(0, end)), call.substring(end).equals(told.get(call.substring(0, end))));
        }
        CHECK.due("rows", told.size(), CALLS.length);
    }

    /** The REFUSALS that begin the parts of a row's last cell, each with a blank ahead. */
    private static String refusalsIn(String cell) {
        StringBuilder all = new StringBuilder();
        for (String part : cell.split("; ")) {
            all.append(part.matches("-[1-6] .+") ? " " + part.substring(0, 2) : "");
        }
        return all.toString();
    }

    private static void everyTestIsNamed(String page) throws Exception {
        try (var files = Files.list(Path.of("src/test/java"))) {
            for (Path file : files.toList()) {
                String name = file.getFileName().toString().replace(".java", "");
                CHECK.holds(name + " is named", page.contains("`" + name + "`"));
            }
        }
    }

    private static void exampleAnswersAsItSays(String example) throws Exception {
        BallsAtDodger hall = new BallsAtDodger();
        Check.letters(hall, between(example, "\"", "\""));
        Set<String> shown = new TreeSet<>(Set.of("letter"));
        for (String line : example.split("\n")) {
            Matcher call = EXAMPLE.matcher(line);
            CHECK.holds("its answer stands behind " + line, call.matches() == line.startsWith("hall."));
            if (call.matches()) {
                CHECK.due(line, answer(hall, call.group(1), call.group(2)), Long.parseLong(call.group(3)));
                shown.add(call.group(1));
            }
        }
        for (String call : CALLS) {
            CHECK.holds("the example shows " + call, shown.contains(call.substring(0, call.indexOf('('))));
        }
    }

    private static long answer(BallsAtDodger hall, String name, String numbers) throws Exception {
        String[] words = numbers.isEmpty() ? new String[0] : numbers.split(", ");
        Object[] values = new Object[words.length];
        Class<?>[] types = new Class<?>[words.length];
        for (int i = 0; i < words.length; i++) {
            values[i] = Integer.valueOf(words[i]);
            types[i] = int.class;
        }
        Method method = BallsAtDodger.class.getMethod(name, types);
        return ((Number) method.invoke(hall, values)).longValue();
    }
}
