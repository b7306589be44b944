import java.io.IOException;
import java.lang.reflect.Field;
import java.lang.reflect.Method;
import java.lang.reflect.Modifier;
import java.nio.charset.StandardCharsets;
import java.nio.file.Files;
import java.nio.file.Path;
import java.util.regex.Matcher;
import java.util.regex.Pattern;

/** The examples of README.md answer what they say, and it names all of the face; run in the project's folder. */
final class ReadmeTest {
    private static final Check CHECK = new Check("ReadmeTest");
    private static final Pattern CALL = Pattern.compile("game\\.(\\w+)\\(([^()]*)\\);(?:\\s*// (-?\\d+).*)?");
    private static final Pattern TEXT = Pattern.compile("for \\(char sign : \"(\\w+)\"\\.toCharArray\\(\\)\\) \\{");

    public static void main(String[] arguments) throws IOException, ReflectiveOperationException {
        String readme = Files.readString(Path.of("README.md"), StandardCharsets.UTF_8);
        Matcher example = Pattern.compile("```java\n(.*?)```", Pattern.DOTALL).matcher(readme);
        int examples = 0;
        while (example.find()) {
            runExample(example.group(1));
            examples++;
        }
        CHECK.due("examples", examples, 2);
        namesAll(readme);
        CHECK.end();
    }

    private static void runExample(String code) throws ReflectiveOperationException {
        ChipGame game = new ChipGame();
        int answers = 0;
        for (String line : code.split("\n")) {
            Matcher text = TEXT.matcher(line);
            Matcher call = CALL.matcher(line.strip());
            if (text.matches()) {
                Check.typeText(game, text.group(1));
            } else if (call.matches() && !call.group(1).equals("type")) {
                long got = answer(game, call.group(1), call.group(2));
                if (call.group(3) != null) {
                    CHECK.due(line.strip(), got, Long.parseLong(call.group(3)));
                    answers++;
                }
            }
        }
        CHECK.that("an example tells answers", answers > 4);
    }

    private static long answer(ChipGame game, String name, String list) throws ReflectiveOperationException {
        String[] texts = list.isEmpty() ? new String[0] : list.split(", ");
        Object[] arguments = new Object[texts.length];
        for (int i = 0; i < texts.length; i++) {
            arguments[i] = Integer.valueOf(texts[i]);
        }
        for (Method method : ChipGame.class.getMethods()) {
            if (method.getName().equals(name) && method.getDeclaringClass() == ChipGame.class) {
                return ((Number) method.invoke(game, arguments)).longValue();
            }
        }
        throw new NoSuchMethodException(name);
    }

    private static void namesAll(String readme) {
        for (Method method : ChipGame.class.getDeclaredMethods()) {
            CHECK.that(method.getName() + " is named",
                !Modifier.isPublic(method.getModifiers()) || readme.contains("`" + method.getName() + "`"));
        }
        for (Field field : ChipGame.class.getDeclaredFields()) {
            CHECK.that(field.getName() + " is named",
                !Modifier.isPublic(field.getModifiers()) || readme.contains("`" + field.getName() + "`"));
        }
    }
}
