import java.lang.reflect.InvocationTargetException;
import java.lang.reflect.Method;
import java.lang.reflect.Modifier;
import java.util.Arrays;

/** No call throws, for any arguments in any state: all calls with numbers from far below to far above. */
public final class ArgumentsTest {
  private static final long[] NUMBERS = {
    Long.MIN_VALUE, Integer.MIN_VALUE, -10001, -11, -1, 0, 1, 3, 5, 9, 61, 128, 10000, Integer.MAX_VALUE,
    Long.MAX_VALUE,
  };

  /** With four numbers or more there are too many rows of all of them. */
  private static final long[] FEWER = {Integer.MIN_VALUE, -1, 0, 1, 5, 61, Integer.MAX_VALUE};

  private static final int CALLS = 300;

  private static WassailEnemies x;
  private static int calls;

  public static void main(String[] args) throws IllegalAccessException {
    for (int state = 0; state < 3; state++) {
      for (Method method : WassailEnemies.class.getDeclaredMethods()) {
        if (Modifier.isPublic(method.getModifiers())) {
          make(state);
          Object[] row = new Object[method.getParameterCount()];
          each(method, row, 0, state);
        }
      }
    }
    Due.end("ArgumentsTest");
  }

  private static void each(Method method, Object[] row, int at, int state) throws IllegalAccessException {
    if (at == row.length) {
      call(method, row, state);
      return;
    }
    Class<?> type = method.getParameterTypes()[at];
    if (type == boolean.class) {
      row[at] = true;
      each(method, row, at + 1, state);
      row[at] = false;
      each(method, row, at + 1, state);
      return;
    }
    for (long number : row.length > 3 ? FEWER : NUMBERS) {
      if (type == long.class) {
        row[at] = number;
        each(method, row, at + 1, state);
      } else if (number == (int) number) {
        row[at] = (int) number;
        each(method, row, at + 1, state);
      }
    }
  }

  private static void call(Method method, Object[] row, int state) throws IllegalAccessException {
    if (calls >= CALLS) {
      make(state);
    }
    calls++;
    try {
      method.invoke(x, row);
      Due.holds(method.getName(), true);
    } catch (InvocationTargetException thrown) {
      Due.holds(method.getName() + Arrays.toString(row) + " throws " + thrown.getCause(), false);
    }
  }

  /** In state 0 an object is new, in 1 it has some of all, in 2 all that it can have. */
  private static void make(int state) {
    x = new WassailEnemies();
    calls = 0;
    for (int i = 0; i < 3 * state; i++) {
      x.hater(6 - i, i, 99 - 19 * i);
      x.lead(i, i);
      x.tape(i, i % 5, 12 * i);
    }
    for (int i = 0; i < 5 * state; i++) {
      x.see(i % 6, i % 5, i, i % 2 == 0);
      x.plan(i % 3, i % 6);
      x.book(i % 5, i);
    }
    if (state > 0) {
      x.image();
      Due.orchard(x, state == 1 ? "hot 9 t<2|!(p=1&(k>2|v=3));wear 4" : "cold 99 y=1" + ";cold 99 y=1".repeat(7));
      Due.feed(x, state == 1 ? "hot 1 (" : "(".repeat(100));
      x.act(0, 2, 7);
      x.pass(7);
    }
  }
}
