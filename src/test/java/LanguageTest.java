import java.lang.reflect.Field;
import java.lang.reflect.Method;
import java.lang.reflect.Modifier;
import java.nio.file.Files;
import java.nio.file.Path;
import java.util.Arrays;
import java.util.Set;
import java.util.TreeSet;
import java.util.regex.Matcher;
import java.util.regex.Pattern;

/** The rules of ../shared/LANGUAGE.md that a look at the source and at the class can tell. Runs in the project's folder. */
public final class LanguageTest {
    private static final Check CHECK = new Check("LanguageTest");
    private static final String[] FACE = {
        "int ball(int,int)", "int best(int,int)", "int clear()", "int count(int)", "long duel(int,int,int,int,int,int)", "int ends()",
        "long game(int,int,int)", "int hall()", "int image()", "int judge()", "int letter(int)", "int lots(int,int)",
        "int odds(int,int,int,int)", "int on()", "int pass(int)", "int player(int,int)", "int row(int)", "int take(int,int)",
        "int throwIt(int,int,int,int)", "int two(int,int,int,int)", "int waits(int,int)", "int whose(int)", "int worth(int)"};

    public static void main(String[] args) throws Exception {
        face();
        classesInside();
        words(Files.readString(Path.of("src/main/java/BallsAtDodger.java")));
        CHECK.end();
    }

    private static void face() {
        Class<?> type = BallsAtDodger.class;
        CHECK.due("public and final", type.getModifiers() & (Modifier.PUBLIC | Modifier.FINAL), Modifier.PUBLIC | Modifier.FINAL);
        CHECK.due("constructors", type.getDeclaredConstructors().length, 1);
        CHECK.due("of no argument", type.getConstructors()[0].getParameterCount(), 0);
        Set<String> open = new TreeSet<>();
        Set<String> names = new TreeSet<>();
        for (Method method : type.getDeclaredMethods()) {
            if (!Modifier.isPrivate(method.getModifiers())) {
                StringBuilder types = new StringBuilder();
                for (Class<?> parameter : method.getParameterTypes()) {
                    types.append(types.length() == 0 ? "" : ",").append(parameter.getName());
                }
                open.add(method.getReturnType().getName() + " " + method.getName() + "(" + types + ")");
                CHECK.due(method.getName() + " is public", method.getModifiers(), Modifier.PUBLIC);
                names.add(method.getName());
            }
        }
        CHECK.due("the face " + open, open.equals(new TreeSet<>(Arrays.asList(FACE))) ? 1 : 0, 1);
        for (Class<?> inside : type.getDeclaredClasses()) {
            for (Method method : inside.getDeclaredMethods()) {
                CHECK.due(method.getName() + " bears a public name", names.contains(method.getName()) ? 1 : 0, 0);
            }
        }
        for (Method method : type.getDeclaredMethods()) {
            boolean shared = Modifier.isPrivate(method.getModifiers()) && names.contains(method.getName());
            CHECK.due(method.getName() + " bears a public name", shared ? 1 : 0, 0);
        }
    }

    private static void classesInside() {
        Class<?>[] inside = BallsAtDodger.class.getDeclaredClasses();
        CHECK.due("some twelve classes", inside.length < 12 ? 1 : 0, 1);
        looks(BallsAtDodger.class);
        for (Class<?> type : inside) {
            CHECK.due(type + " is static", Modifier.isStatic(type.getModifiers()) ? 1 : 0, 1);
            looks(type);
        }
    }

    private static void looks(Class<?> type) {
        int fields = 0;
        for (Field field : type.getDeclaredFields()) {
            boolean isStatic = Modifier.isStatic(field.getModifiers());
            fields += isStatic ? 0 : 1;
            CHECK.due(field + " is final, if static", isStatic && !Modifier.isFinal(field.getModifiers()) ? 1 : 0, 0);
            CHECK.due(field + " is private", Modifier.isPrivate(field.getModifiers()) ? 1 : 0, 1);
        }
        CHECK.due(type + " has some twenty fields", fields <= 20 ? 1 : 0, 1);
        for (Method method : type.getDeclaredMethods()) {
            CHECK.due(method + " takes seven at most", method.getParameterCount() <= 7 ? 1 : 0, 1);
        }
    }

    private static void words(String source) {
        String bare = source.replaceAll("(?s)/\\*.*?\\*/", " ").replaceAll("//[^\n]*", " ").replaceAll("\"[^\"\n]*\"", "#");
        String[] ruledOut = {"\\b(throw|throws|try|catch|finally|synchronized|assert|import|package|protected|volatile|record|var)\\b", "->", "::", "@",
            "\\bstatic\\s*\\{", "\\b(equals|hashCode|toString|System\\.(?!arraycopy)\\w+|Thread|Object)\\b", "\\b(double|float)\\b", "Exact\\b", "\\b(MAX|MIN)_VALUE\\b", "#\\s*\\+|\\+\\s*#"};
        for (String rule : ruledOut) {
            Matcher found = Pattern.compile(rule).matcher(bare);
            CHECK.due("ruled out by " + rule, found.find() ? 1 : 0, 0);
        }
        int longest = 0;
        int length = 0;
        for (String line : source.split("\n")) {
            length = line.matches("    (    )?}") ? 0 : length + 1;
            longest = line.matches("        .*") ? Math.max(longest, length) : longest;
            CHECK.due("short line", line.length() <= 140 ? 1 : 0, 1);
        }
        CHECK.due("methods of sixty lines at most", longest <= 60 ? 1 : 0, 1);
        CHECK.due("signs 1 to 127", source.chars().allMatch(c -> c >= 1 && c <= 127) ? 1 : 0, 1);
    }
}
