import java.io.IOException;
import java.lang.reflect.Constructor;
import java.lang.reflect.Field;
import java.lang.reflect.Method;
import java.lang.reflect.Modifier;
import java.nio.file.Path;
import java.util.ArrayList;
import java.util.List;
import java.util.TreeSet;

/** The rules of ../shared/LANGUAGE.md: of the source by SourceRules, of the face by the class itself. */
public final class LanguageTest {
  private static final String FACE =
      "int hater(int,int,int) int of(int,int) int hate(int,int,int) int lead(int,int)"
          + " int leave(int,boolean) int row(int,int,int) int feed(int) int orchard() int told(int)"
          + " int pass(int) int on(int,int) int ring(int) int turn(int,int,int)"
          + " int see(int,int,int,boolean) int hates(int,int,int) int can(int,int)"
          + " long odds(int,int) long mean(int,int) int plan(int,int) int ends(int)"
          + " int book(int,int) int looked() int judge(int,int) int image() int undo()"
          + " int act(int,int,int) int trace(int) int taken(int,int) int count(int)"
          + " int tape(int,int,int) int item(int,int,long) long read(int,int)"
          + " int shift(int,int,int,int,int)";

  public static void main(String[] args) throws IOException {
    SourceRules.all(Path.of("src/main/java/WassailEnemies.java"));
    face();
    inside();
    Due.end("LanguageTest");
  }

  private static String signature(Method method) {
    StringBuilder text = new StringBuilder(method.getReturnType().getName() + " " + method.getName() + "(");
    for (Class<?> type : method.getParameterTypes()) {
      text.append(text.charAt(text.length() - 1) == '(' ? "" : ",").append(type.getName());
    }
    return text.append(")").toString();
  }

  private static void face() {
    Class<?> type = WassailEnemies.class;
    TreeSet<String> due = new TreeSet<>(List.of(FACE.split(" (?=int |long )")));
    TreeSet<String> names = new TreeSet<>();
    TreeSet<String> is = new TreeSet<>();
    for (Method method : type.getDeclaredMethods()) {
      if (!Modifier.isPrivate(method.getModifiers())) {
        is.add(signature(method));
        names.add(method.getName());
        Due.holds(method + " is public and no more", method.getModifiers() == Modifier.PUBLIC);
      }
    }
    Due.holds("the public methods are those of the document: " + is, is.equals(due));
    for (Method method : type.getDeclaredMethods()) {
      boolean hidden = Modifier.isPrivate(method.getModifiers());
      Due.holds(method + " has no public name", !hidden || !names.contains(method.getName()));
    }
    Due.is("the class is public and final", type.getModifiers(), Modifier.PUBLIC | Modifier.FINAL);
    Constructor<?>[] made = type.getDeclaredConstructors();
    Due.holds("one constructor", made.length == 1 && made[0].getParameterCount() == 0);
    List<String> constants = new ArrayList<>();
    for (Field field : type.getDeclaredFields()) {
      if (!Modifier.isPrivate(field.getModifiers())) {
        constants.add(field.getType() + " " + field.getName());
      }
    }
    Due.holds("the constants are those of the document: " + constants,
        constants.equals(List.of("int NONE", "int BAD", "int STATE", "int FULL", "long NO")));
  }

  private static void inside() {
    for (Class<?> type : WassailEnemies.class.getDeclaredClasses()) {
      Due.holds(type + " is static", Modifier.isStatic(type.getModifiers()));
      Due.holds(type + " is private", Modifier.isPrivate(type.getModifiers()));
    }
  }
}
