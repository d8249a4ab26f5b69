import java.io.IOException;
import java.lang.reflect.Method;
import java.lang.reflect.Modifier;
import java.nio.file.Files;
import java.nio.file.Path;
import java.util.regex.Matcher;
import java.util.regex.Pattern;

/** README.md says how to use the class: its example answers as it says there, and no public method is left out. */
public final class ReadmeTest {
    private static final Pattern CALL = Pattern.compile("game\\.(\\w+)\\(([^)]*)\\); +// (\\w+).*");

    public static void main(String[] args) throws IOException, ReflectiveOperationException {
        String readme = Files.readString(Path.of("README.md"));
        exampleHolds(readme);
        everyMethodIsTold(readme);
        Check.end();
    }

    private static void exampleHolds(String readme) throws ReflectiveOperationException {
        RollbackGame game = new RollbackGame();
        int calls = 0;
        for (String line : readme.split("\n")) {
            if (line.startsWith("game.")) {
                Matcher call = CALL.matcher(line);
                boolean told = call.matches();
                Check.due("'" + line + "' has its answer", told, true);
                if (told) {
                    Check.due(line, answer(game, call.group(1), call.group(2)), number(call.group(3)));
                }
                calls++;
            }
        }
        Check.due("there is an example", calls > 0, true);
    }

    private static long answer(RollbackGame game, String name, String list) throws ReflectiveOperationException {
        String[] words = list.isEmpty() ? new String[0] : list.split(", ");
        Class<?>[] types = new Class<?>[words.length];
        Object[] values = new Object[words.length];
        for (int i = 0; i < words.length; i++) {
            types[i] = int.class;
            values[i] = Integer.valueOf(words[i]);
        }
        return number(RollbackGame.class.getMethod(name, types).invoke(game, values).toString());
    }

    private static long number(String word) {
        return switch (word) {
            case "true" -> 1;
            case "false" -> 0;
            case "BAD" -> RollbackGame.BAD;
            case "NONE" -> RollbackGame.NONE;
            default -> Long.parseLong(word);
        };
    }

    private static void everyMethodIsTold(String readme) {
        for (Method m : RollbackGame.class.getDeclaredMethods()) {
            if (Modifier.isPublic(m.getModifiers())) {
                Check.due("`" + m.getName() + "` is told", readme.contains("`" + m.getName() + "("), true);
            }
        }
    }
}
