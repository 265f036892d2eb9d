/** Promises 11 and 12: pass, on. */
public final class YearsTest {
  private static final int NONE = -1, BAD = -2, STATE = -3, ABSENT = -5;
  private static final int MIN = Integer.MIN_VALUE, MAX = Integer.MAX_VALUE;

  public static void main(String[] args) {
    pass();
    passBounds();
    on();
    onChangesNothing();
    Due.end("YearsTest");
  }

  private static WassailEnemies orchardOfThree() {
    WassailEnemies x = new WassailEnemies();
    x.hater(0, 0, 24);
    x.hater(3, 0, 33);
    x.hater(5, 0, 52);
    x.lead(0, 0);
    x.lead(1, 1);
    x.lead(2, 2);
    return x;
  }

  private static void pass() {
    WassailEnemies x = orchardOfThree();
    Due.is("pass(0)", x.pass(0), 0);
    Due.is("of(0, 10)", x.of(0, 10), 24);
    Due.is("24, 17 and 104: told(3)", x.told(3), 5);
    Due.is("pass(1)", x.pass(1), 1);
    Due.is("of(0, 10)", x.of(0, 10), 21);
    Due.is("for its own TREE alone: of(0, 11)", x.of(0, 11), 24);
    Due.is("did not bear, does not wear: of(1, 11)", x.of(1, 11), 33);
    Due.is("of(2, 12)", x.of(2, 12), 49);
    Due.is("49 - 1: of(2, 22)", x.of(2, 22), 48);
    Due.is("pass(2)", x.pass(2), 3);
    Due.is("21, then 18: told(10)", x.told(10), 2);
    Due.is("of(0, 10)", x.of(0, 10), 18);
    Due.is("told(12)", x.told(12), 3);
    Due.is("of(2, 12)", x.of(2, 12), 43);
    Due.is("told(13)", x.told(13), 0);
    Due.is("a LEADER by then: lead(3, 1)", x.lead(3, 1), ABSENT);
    x.hate(1, 3, 1);
    Due.is("pass(3)", x.pass(3), 6);
    Due.is("0 at least: of(1, 13)", x.of(1, 13), 0);
    Due.is("told(13)", x.told(13), 3);
    WassailEnemies worn = Due.under("wear 10;need 5");
    worn.hater(0, 0, 9);
    worn.lead(4, 0);
    worn.pass(1);
    Due.is("0 at least: of(0, 14)", worn.of(0, 14), 0);
    Due.is("told(14)", worn.told(14), 1);
  }

  private static void passBounds() {
    WassailEnemies x = Due.under("wear 0");
    x.hater(0, 0, 99);
    x.lead(2, 0);
    for (int n : new int[] {-1, 61, MIN, MAX}) {
      Due.is("pass(" + n + ")", x.pass(n), BAD);
    }
    for (int i = 1; i <= 166; i++) {
      Due.is("pass(60)", x.pass(60), i * 60);
    }
    Due.is("10020: pass(60)", x.pass(60), STATE);
    Due.is("10000: pass(40)", x.pass(40), STATE);
    Due.is("told(0)", x.told(0), 9960);
    Due.is("above 9999, but bad: pass(61)", x.pass(61), BAD);
    Due.is("pass(39)", x.pass(39), 9999);
    Due.is("pass(1)", x.pass(1), STATE);
    Due.is("pass(0)", x.pass(0), 9999);
    Due.is("told(12)", x.told(12), 9999);
    Due.is("told(4)", x.told(4), 9999);
    Due.is("asked, BORE goes on beyond 9999: on(60, 12)", x.on(60, 12), 10059);
    x.plan(0, 0);
    x.plan(0, 0);
    Due.is("asked, BORE goes on beyond 9999: ends(0)", x.ends(0), 10001);
    Due.is("asked, YEARS go on beyond 9999: of(0, 32)", x.of(0, 32), 60);
    Due.is("asked, YEARS go on beyond 9999: turn(2, 3, -1)", x.turn(2, 3, -1), 3);
    Due.is("told(12)", x.told(12), 9999);
  }

  private static void on() {
    WassailEnemies x = orchardOfThree();
    Due.is("on(0, 0)", x.on(0, 0), 5);
    Due.is("on(1, 0)", x.on(1, 0), 5);
    Due.is("on(2, 0)", x.on(2, 0), 4);
    Due.is("on(0, 10)", x.on(0, 10), 0);
    Due.is("on(1, 10)", x.on(1, 10), 1);
    Due.is("on(60, 10)", x.on(60, 10), 2);
    Due.is("on(60, 14)", x.on(60, 14), 0);
    Due.is("on(2, 20)", x.on(2, 20), 18);
    Due.is("on(2, 21)", x.on(2, 21), 24);
    Due.is("on(2, 26)", x.on(2, 26), 33);
    Due.is("on(2, 32)", x.on(2, 32), 46);
    Due.is("on(2, 34)", x.on(2, 34), 52);
    int[] whats = {-1, 1, 9, 15, 19, 35, 40, 49, 50, 110, -20, -10, MIN, MIN + 19, MAX};
    for (int what : whats) {
      Due.is("on(0, " + what + ")", x.on(0, what), NONE);
      Due.is("on(61, " + what + ")", x.on(61, what), NONE);
    }
    for (int n : new int[] {-1, 61, MIN, MAX}) {
      Due.is("on(" + n + ", 0)", x.on(n, 0), BAD);
      Due.is("on(" + n + ", 14)", x.on(n, 14), BAD);
      Due.is("on(" + n + ", 34)", x.on(n, 34), BAD);
    }
  }

  private static void onChangesNothing() {
    WassailEnemies x = orchardOfThree();
    x.on(50, 0);
    Due.is("told(0)", x.told(0), 0);
    Due.is("told(4)", x.told(4), 0);
    Due.is("of(0, 10)", x.of(0, 10), 24);
    x.pass(5);
    WassailEnemies y = orchardOfThree();
    for (int t = 0; t < 5; t++) {
      Due.is("on(5, 1t) is what told(1t) is then", y.on(5, 10 + t), x.told(10 + t));
      for (int p = 0; p < 3; p++) {
        Due.is("on(5, 20 + 5p + t) is what of(p, 1t) is then", y.on(5, 20 + 5 * p + t), x.of(p, 10 + t));
      }
    }
    Due.is("on(5, 0) is what told(3) is then", y.on(5, 0), x.told(3));
  }
}
