import java.io.IOException;
import java.lang.reflect.InvocationTargetException;
import java.lang.reflect.Method;
import java.lang.reflect.Modifier;
import java.nio.file.Files;
import java.nio.file.Path;
import java.util.regex.Matcher;
import java.util.regex.Pattern;

/** The example of README.md, line by line: each call answers the number that is written behind it. */
public final class ReadmeTest {
  private static final Pattern CALL = Pattern.compile("x\\.(\\w+)\\(([^()]*)\\); +// (-?\\d+)(:.*|)");
  private static final Pattern FEED = Pattern.compile("for \\(char sign : \"([^\"]*)\"\\.toCharArray\\(\\)\\) \\{");

  private static WassailEnemies x;

  public static void main(String[] args) throws IOException, IllegalAccessException, InvocationTargetException {
    String readme = Files.readString(Path.of("README.md"));
    Matcher block = Pattern.compile("(?s)```java\n(.*?)```").matcher(readme);
    Due.holds("README.md has an example", block.find());
    for (String line : block.group(1).split("\n")) {
      run(line.trim());
    }
    Due.holds("and no second one", !block.find());
    Due.end("ReadmeTest");
  }

  private static void run(String line) throws IllegalAccessException, InvocationTargetException {
    Matcher feed = FEED.matcher(line);
    Matcher call = CALL.matcher(line);
    if (line.equals("WassailEnemies x = new WassailEnemies();")) {
      x = new WassailEnemies();
    } else if (feed.matches()) {
      Due.feed(x, feed.group(1));
    } else if (call.matches()) {
      Due.is(line, answer(call.group(1), call.group(2)), Long.parseLong(call.group(3)));
    } else {
      boolean plain = line.isEmpty() || line.startsWith("//") || line.equals("x.feed(sign);") || line.equals("}");
      Due.holds("this line is understood: " + line, plain);
    }
  }

  private static long answer(String name, String given) throws IllegalAccessException, InvocationTargetException {
    String[] texts = given.isEmpty() ? new String[0] : given.split(", ");
    for (Method method : WassailEnemies.class.getDeclaredMethods()) {
      if (Modifier.isPublic(method.getModifiers()) && method.getName().equals(name)) {
        Due.is(name + " takes so many", texts.length, method.getParameterCount());
        Object[] values = new Object[texts.length];
        for (int i = 0; i < values.length; i++) {
          values[i] = value(method.getParameterTypes()[i], texts[i]);
        }
        return ((Number) method.invoke(x, values)).longValue();
      }
    }
    throw new IllegalArgumentException("no call " + name);
  }

  private static Object value(Class<?> type, String text) {
    if (type == boolean.class) {
      return text.equals("true");
    }
    return type == long.class ? (Object) Long.parseLong(text) : (Object) Integer.parseInt(text);
  }
}
