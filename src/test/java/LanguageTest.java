import java.io.IOException;
import java.lang.reflect.Constructor;
import java.lang.reflect.Field;
import java.lang.reflect.Method;
import java.lang.reflect.Modifier;
import java.nio.file.Files;
import java.nio.file.Path;
import java.util.ArrayList;
import java.util.List;
import java.util.TreeSet;
import java.util.regex.Matcher;
import java.util.regex.Pattern;

/** What of ../shared/LANGUAGE.md can be seen from the source and the class itself. */
public final class LanguageTest {
  private static final String FACE =
      "int hater(int,int,int) int of(int,int) int hate(int,int,int) int lead(int,int)"
          + " int leave(int,boolean) int row(int,int,int) int feed(int) int orchard() int told(int)"
          + " int pass(int) int on(int,int) int ring(int) int turn(int,int,int)"
          + " int see(int,int,int,boolean) int hates(int,int,int) int can(int,int)"
          + " long odds(int,int) long mean(int,int) int plan(int,int) int ends(int)"
          + " int book(int,int) int looked() int judge(int,int) int image() int undo()"
          + " int act(int,int,int) int trace(int) int taken(int,int) int count(int)"
          + " int tape(int,int,int) int item(int,int,long) long read(int,int)"
          + " int shift(int,int,int,int,int)";

  private static final String[] FORBIDDEN = {
    "\\b(throw|throws|try|catch|finally|synchronized|assert|native|volatile|transient|package)\\b",
    "->|::|@|\\bvar\\b|\\.\\.\\.",
    "\\b(equals|hashCode|toString|compareTo)\\s*\\(\\s*(Object|\\))",
    "\\b(Exception|Error|Thread|Random|Runtime|Object|Class|Collections|Objects|Stream|Optional|Map|Set)\\b",
    "\\bSystem\\.(?!arraycopy\\b)",
    "\\bArrays\\.(?!copyOf\\b|copyOfRange\\b|fill\\b)",
    "\\bMath\\.\\w+Exact\\b|\\bMath\\.(random|sqrt|pow|floor|ceil|round)\\b",
    "\\bimport (?!java\\.util\\.(ArrayList|List|Arrays);)",
    "\\bstatic\\s*\\{",
    "\\[\\]\\[\\]\\[\\]",
    "\"\\s*\\+|\\+\\s*\"",
    "[^\\x00-\\x7f]",
  };

  public static void main(String[] args) throws IOException {
    String source = Files.readString(Path.of("src/main/java/WassailEnemies.java"));
    String code = withoutComments(source);
    for (String pattern : FORBIDDEN) {
      Matcher found = Pattern.compile(pattern).matcher(code);
      Due.holds("no " + pattern + " in the source" + (found.find() ? ": " + found.group() : ""), !found.reset().find());
    }
    face();
    inside();
    methods(code);
    Due.end("LanguageTest");
  }

  private static String withoutComments(String source) {
    return source.replaceAll("(?s)/\\*.*?\\*/", "").replaceAll("//[^\n]*", "");
  }

  private static String signature(Method method) {
    StringBuilder text = new StringBuilder(method.getReturnType().getName() + " " + method.getName() + "(");
    for (Class<?> type : method.getParameterTypes()) {
      text.append(text.charAt(text.length() - 1) == '(' ? "" : ",").append(type.getName());
    }
    return text.append(")").toString();
  }

  private static void face() {
    Class<?> type = WassailEnemies.class;
    TreeSet<String> due = new TreeSet<>(List.of(FACE.split(" (?=int |long )")));
    TreeSet<String> names = new TreeSet<>();
    TreeSet<String> is = new TreeSet<>();
    for (Method method : type.getDeclaredMethods()) {
      if (!Modifier.isPrivate(method.getModifiers())) {
        is.add(signature(method));
        names.add(method.getName());
        Due.holds(method + " is public and no more", method.getModifiers() == Modifier.PUBLIC);
      }
    }
    Due.holds("the public methods are those of the document: " + is, is.equals(due));
    for (Method method : type.getDeclaredMethods()) {
      boolean hidden = Modifier.isPrivate(method.getModifiers());
      Due.holds(method + " has no public name", !hidden || !names.contains(method.getName()));
    }
    Due.is("the class is public and final", type.getModifiers(), Modifier.PUBLIC | Modifier.FINAL);
    Constructor<?>[] made = type.getDeclaredConstructors();
    Due.holds("one constructor", made.length == 1 && made[0].getParameterCount() == 0);
    List<String> constants = new ArrayList<>();
    for (Field field : type.getDeclaredFields()) {
      if (!Modifier.isPrivate(field.getModifiers())) {
        constants.add(field.getType() + " " + field.getName());
      }
    }
    Due.holds("the constants are those of the document: " + constants,
        constants.equals(List.of("int NONE", "int BAD", "int STATE", "int FULL", "long NO")));
  }

  private static void inside() {
    Class<?>[] classes = WassailEnemies.class.getDeclaredClasses();
    Due.holds("some twelve classes", classes.length + 1 <= 12);
    for (Class<?> type : classes) {
      Due.holds(type + " is static", Modifier.isStatic(type.getModifiers()));
      Due.holds(type + " is private", Modifier.isPrivate(type.getModifiers()));
      fields(type);
    }
    fields(WassailEnemies.class);
  }

  private static void fields(Class<?> type) {
    int own = 0;
    for (Field field : type.getDeclaredFields()) {
      boolean constant = Modifier.isStatic(field.getModifiers());
      own += constant ? 0 : 1;
      Due.holds(field + " is no static state", !constant || Modifier.isFinal(field.getModifiers()));
    }
    Due.holds(type + " has some twenty fields", own <= 20);
    for (Method method : type.getDeclaredMethods()) {
      Due.holds(method + " takes seven parameters at most", method.getParameterCount() <= 7);
    }
  }

  /** The lines of each method, by how its head and its last brace are set in. */
  private static void methods(String code) {
    Matcher method = Pattern.compile("(?m)^( {2}| {4})(?! )[^\n=;]*\\([^\n;]*\\) \\{\n(?s:.*?)^\\1\\}").matcher(code);
    int seen = 0;
    while (method.find()) {
      seen++;
      String head = method.group().substring(0, method.group().indexOf('\n')).trim();
      Due.holds(head + " is short", method.group().split("\n").length <= 60);
    }
    Due.holds("methods were seen: " + seen, seen > 80);
  }
}
