import java.io.IOException;
import java.lang.reflect.InvocationTargetException;
import java.lang.reflect.Method;
import java.lang.reflect.Modifier;
import java.nio.file.Files;
import java.nio.file.Path;
import java.util.Set;
import java.util.TreeSet;
import java.util.regex.Matcher;
import java.util.regex.Pattern;

/** Every call of the example in README.md answers what the comment behind it says, and none is left out. */
public final class ReadmeTest extends Checks {
    private static final Pattern CALL = Pattern.compile("channel\\.(\\w+)\\((.*?)\\);\\s*// ([^: ]+).*");

    public static void main(String[] args) throws IOException {
        ChannelRouter channel = new ChannelRouter();
        Set<String> shown = new TreeSet<>();
        for (String line : Files.readAllLines(Path.of("README.md"))) {
            Matcher call = CALL.matcher(line);
            if (call.matches()) {
                shown.add(call.group(1));
                same(line, call.group(3), answer(channel, call.group(1), call.group(2)));
            } else {
                same("without an answer: " + line, false, line.startsWith("channel."));
            }
        }
        for (Method method : ChannelRouter.class.getDeclaredMethods()) {
            if (Modifier.isPublic(method.getModifiers())) {
                same("shown: " + method.getName(), true, shown.contains(method.getName()));
            }
        }
        end();
    }

    private static String answer(ChannelRouter channel, String name, String arguments) {
        for (Method method : ChannelRouter.class.getMethods()) {
            if (method.getName().equals(name)) {
                return answer(channel, method, arguments);
            }
        }
        return "no such call";
    }

    private static String answer(ChannelRouter channel, Method method, String arguments) {
        try {
            return String.valueOf(method.invoke(channel, values(arguments)));
        } catch (InvocationTargetException e) {
            return e.getCause().getClass().getSimpleName();
        } catch (IllegalAccessException e) {
            return e.toString();
        }
    }

    private static Object[] values(String arguments) {
        String[] texts = arguments.isEmpty() ? new String[0] : arguments.split(", ");
        Object[] values = new Object[texts.length];
        for (int i = 0; i < texts.length; i++) {
            if (texts[i].equals("true") || texts[i].equals("false")) {
                values[i] = Boolean.valueOf(texts[i]);
            } else {
                values[i] = Integer.valueOf(texts[i]);
            }
        }
        return values;
    }
}
