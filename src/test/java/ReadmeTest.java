import java.io.IOException;
import java.lang.reflect.InvocationTargetException;
import java.lang.reflect.Member;
import java.lang.reflect.Method;
import java.lang.reflect.Modifier;
import java.nio.file.Files;
import java.nio.file.Path;
import java.util.regex.Matcher;
import java.util.regex.Pattern;

/** README.md: its Java examples answer what their comments tell, and it names every method and constant. */
public final class ReadmeTest {
    private static final Pattern EXAMPLE = Pattern.compile("(?s)```java\n(.*?)```");
    private static final Pattern MADE =
        Pattern.compile("SafeClosures x = new SafeClosures\\((\\d+), (\\d+), (\\d+)\\);");
    private static final Pattern CALL = Pattern.compile("x\\.(\\w+)\\((.*?)\\); *(?:// (\\w+).*)?");

    public static void main(String[] args) throws IOException, ReflectiveOperationException {
        Check.sentence("README.md");
        String text = Files.readString(Path.of("README.md"));
        Matcher example = EXAMPLE.matcher(text);
        int examples = 0;
        while (example.find()) {
            examples++;
            run(example.group(1).split("\n"));
        }
        Check.same("examples", examples, 2);
        namesAll(text, SafeClosures.class.getDeclaredMethods());
        namesAll(text, SafeClosures.class.getDeclaredFields());
        Check.end();
    }

    private static void run(String[] lines) throws ReflectiveOperationException {
        SafeClosures x = null;
        for (String line : lines) {
            Matcher made = MADE.matcher(line);
            Matcher call = CALL.matcher(line);
            if (made.matches()) {
                x = new SafeClosures(number(made.group(1)), number(made.group(2)), number(made.group(3)));
            } else if (call.matches()) {
                Object answer = give(x, call.group(1), call.group(2));
                if (call.group(3) != null) {
                    Check.same(line, (Integer) answer, number(call.group(3)));
                }
            } else {
                Check.holds("not an example's line: " + line, line.startsWith("//"));
            }
        }
    }

    private static Object give(SafeClosures x, String name, String arguments)
            throws IllegalAccessException, InvocationTargetException, NoSuchFieldException {
        String[] words = arguments.isEmpty() ? new String[0] : arguments.split(", ");
        Object[] given = new Object[words.length];
        for (int i = 0; i < words.length; i++) {
            given[i] = number(words[i].replace("SafeClosures.", ""));
        }
        for (Method method : SafeClosures.class.getMethods()) {
            if (method.getName().equals(name)) {
                return method.invoke(x, given);
            }
        }
        throw new IllegalArgumentException("no method " + name);
    }

    /** An int, or the value of the constant of this name. */
    private static int number(String word) throws IllegalAccessException, NoSuchFieldException {
        return word.matches("-?\\d+") ? Integer.parseInt(word) : SafeClosures.class.getField(word).getInt(null);
    }

    private static void namesAll(String text, Member[] members) {
        for (Member member : members) {
            boolean named = text.matches("(?s).*`[^`\n]*\\b" + member.getName() + "\\b.*");
            Check.holds("not named: " + member.getName(), Modifier.isPrivate(member.getModifiers()) || named);
        }
    }
}
