/** Promises 27 to 29: act, trace, taken. */
public final class ActTest {
  private static final int NONE = -1, BAD = -2, NOTHING = -11, CAST = -12;
  private static final int MIN = Integer.MIN_VALUE, MAX = Integer.MAX_VALUE;

  public static void main(String[] args) {
    plain();
    under();
    told();
    wrapping();
    wrong();
    taken();
    Due.end("ActTest");
  }

  private static void act(WassailEnemies x, int hater, int act, int arg, int want, int... trace) {
    String call = "act(" + hater + ", " + act + ", " + arg + ")";
    Due.is(call, x.act(hater, act, arg), want);
    Due.is("count(6) behind " + call, x.count(6), trace.length);
    for (int i = 0; i < trace.length; i++) {
      Due.is("trace(" + i + ") behind " + call, x.trace(i), trace[i]);
    }
    Due.is("trace(" + trace.length + ") behind " + call, x.trace(trace.length), NONE);
  }

  /** Numbers 0 .. 3 with v 5, 6, 7, 8. */
  private static void plain() {
    WassailEnemies x = new WassailEnemies();
    x.hater(0, 5, 0);
    x.hater(1, 6, 0);
    x.hater(2, 7, 0);
    x.hater(3, 8, 0);
    act(x, 0, 0, 10, 10, 10);
    act(x, 0, 1, 10, 5, 11, 10);
    act(x, 0, 2, 10, 10, 12, 11, 10);
    act(x, 1, 0, 10, 11, 10);
    act(x, 1, 1, 10, 5 ^ 6, 20, 11, 10);
    act(x, 1, 2, 10, (5 ^ 6) * 2, 12, 20, 11, 10);
    act(x, 2, 0, 10, 32, 30, 10);
    act(x, 2, 1, 10, 25, 11, 30, 10);
    act(x, 2, 2, 10, 50, 12, 11, 30, 10);
    act(x, 3, 0, 10, 13, 10);
    act(x, 3, 1, 10, 5, 11, 10);
    act(x, 3, 2, 10, 10 - 4, 40, 12, 11, 10, 11, 10);
  }

  private static void under() {
    WassailEnemies x = new WassailEnemies();
    x.hater(0, 0, 0);
    x.hater(4, 3, 0);
    x.hater(5, 4, 0);
    act(x, 1, 0, 10, -11, 50, 10);
    act(x, 1, 1, 10, -15 ^ 6, 51, 20, 11, 50, 10);
    act(x, 1, 2, 10, (-15 ^ 6) * 2, 12, 51, 20, 11, 50, 10);
    act(x, 2, 0, 10, 32, 30, 10);
    act(x, 2, 1, 10, 28, 11, 30, 10);
    act(x, 2, 2, 10, 44, 60, 12, 11, 30, 10);
    x.leave(1, true);
    act(x, 1, 0, 7, -8, 50, 10);
  }

  private static void told() {
    WassailEnemies x = new WassailEnemies();
    x.hater(0, 0, 0);
    x.hater(0, 0, 0);
    x.hater(6, 5, 0);
    act(x, 2, 0, 10, 12 ^ 5, 71, 10);
    int spits10 = (12 ^ 5) - 5 + 4;
    act(x, 2, 1, 10, spits10, 70, 11, 71, 10, 10);
    int spits1 = (3 ^ 5) - 5 + 4;
    act(x, 2, 2, 10, spits10 * 2 + spits1, 40, 12, 70, 11, 71, 10, 10, 70, 11, 71, 10, 10);
    Due.is("trace(20)", x.trace(20), NONE);
  }

  private static void wrapping() {
    WassailEnemies x = new WassailEnemies();
    x.hater(0, 0, 0);
    x.hater(2, 9, 0);
    x.hater(4, 9, 0);
    act(x, 1, 0, MAX, MAX * 3 + 1, 30, 10);
    act(x, 1, 1, MIN, MIN * 3 + 1 - 9, 11, 30, 10);
    act(x, 2, 0, MAX, -(MAX + 2), 50, 10);
    act(x, 2, 0, MIN - 2, MIN, 50, 10);
  }

  private static void wrong() {
    WassailEnemies x = new WassailEnemies();
    act(x, 0, 0, 5, 0);
    x.hater(0, 1, 0);
    for (int bad : new int[] {-1, 1, 6, MIN, MAX}) {
      act(x, 0, 2, 5, 8, 12, 11, 10);
      act(x, bad, 0, 5, 0);
    }
    for (int bad : new int[] {-1, 3, MIN, MAX}) {
      act(x, 0, 1, 5, 4, 11, 10);
      act(x, 0, bad, 5, 0);
    }
    act(x, 0, 0, 5, 5, 10);
    for (int bad : new int[] {-1, 1, 19, 20, MIN, MAX}) {
      Due.is("trace(" + bad + ")", x.trace(bad), NONE);
    }
  }

  private static void taken() {
    WassailEnemies x = new WassailEnemies();
    for (int kind = 1; kind <= 6; kind++) {
      x.hater(kind, 0, 0);
    }
    boolean[][] is = {
      {true, true, false, false, false, false, false},
      {true, false, true, false, false, false, false},
      {true, false, false, true, false, false, false},
      {true, true, false, false, true, false, false},
      {true, false, true, false, false, true, false},
      {true, false, false, true, false, false, true},
    };
    for (int hater = 0; hater < 6; hater++) {
      for (int k = 0; k < 7; k++) {
        Due.is("taken(" + hater + ", " + k + ")", x.taken(hater, k), is[hater][k] ? hater + 1 : CAST);
      }
    }
    WassailEnemies y = new WassailEnemies();
    Due.is("no HATERS: taken(0, 0)", y.taken(0, 0), NOTHING);
    y.hater(0, 0, 0);
    Due.is("taken(0, 0)", y.taken(0, 0), 0);
    for (int k = 1; k < 7; k++) {
      Due.is("taken(0, " + k + ")", y.taken(0, k), CAST);
    }
    for (int k : new int[] {-1, 7, MIN, MAX}) {
      Due.is("taken(0, " + k + ")", y.taken(0, k), BAD);
      Due.is("taken(9, " + k + ")", y.taken(9, k), BAD);
    }
    for (int hater : new int[] {-1, 1, 6, MIN, MAX}) {
      Due.is("taken(" + hater + ", 6)", y.taken(hater, 6), NOTHING);
    }
  }
}
