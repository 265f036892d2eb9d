/** Promises 13 and 14: ring, turn. */
public final class RingTest {
  private static final int NONE = -1, BAD = -2, ABSENT = -5, NO_SUCH = -10001;
  private static final int MIN = Integer.MIN_VALUE, MAX = Integer.MAX_VALUE;

  public static void main(String[] args) {
    ringOfNone();
    ringFirst();
    ringMost();
    ringGreatest();
    ringGone();
    ringWrong();
    turnOfNone();
    turns();
    turnsWear();
    turnWrong();
    Due.end("RingTest");
  }

  private static void ring(String what, WassailEnemies x, int bearing, int force, int... row) {
    Due.is(what + ": ring(0)", x.ring(0), bearing);
    Due.is(what + ": ring(1)", x.ring(1), force);
    for (int t = 0; t < 5; t++) {
      Due.is(what + ": ring(1" + t + ")", x.ring(10 + t), row[t]);
    }
  }

  private static void ringOfNone() {
    WassailEnemies x = new WassailEnemies();
    ring("no HATERS", x, 0, 0, ABSENT, ABSENT, ABSENT, ABSENT, ABSENT);
    x.hater(0, 0, 99);
    x.leave(0, true);
    ring("all gone", x, 0, 0, ABSENT, ABSENT, ABSENT, ABSENT, ABSENT);
  }

  /** A HATER comes ahead of none in a row, whether the TREE bears with that or not. */
  private static void ringFirst() {
    WassailEnemies x = new WassailEnemies();
    x.hater(0, 0, 0);
    ring("one, bears nowhere", x, 0, 0, 0, ABSENT, ABSENT, ABSENT, ABSENT);
    x.hater(0, 0, 0);
    x.hater(0, 0, 0);
    ring("three, bear nowhere", x, 0, 0, 0, 1, 2, ABSENT, ABSENT);
    x.hate(0, 2, 20);
    ring("the first bears at 2", x, 1, 20, 1, 2, 0, ABSENT, ABSENT);
    x.hate(1, 0, 20);
    x.hate(2, 0, 20);
    ring("either bears at 0", x, 2, 40, 1, 2, 0, ABSENT, ABSENT);
    x.hater(0, 0, 0);
    x.hater(0, 0, 0);
    x.hater(0, 0, 0);
    ring("six, five have a TREE", x, 2, 40, 1, 2, 0, 3, 4);
  }

  private static void ringMost() {
    WassailEnemies x = new WassailEnemies();
    x.hater(0, 0, 0);
    x.hater(0, 0, 0);
    x.hate(0, 0, 99);
    x.hate(0, 4, 20);
    x.hate(1, 0, 20);
    ring("two of 20 are more than one of 99", x, 2, 40, 1, ABSENT, ABSENT, ABSENT, 0);
    x.hate(1, 0, 19);
    ring("else 99", x, 1, 99, 0, 1, ABSENT, ABSENT, ABSENT);
  }

  private static void ringGreatest() {
    WassailEnemies x = new WassailEnemies();
    x.hater(0, 0, 30);
    x.hater(0, 0, 30);
    x.hate(0, 1, 31);
    ring("31 at 1", x, 2, 61, 1, 0, ABSENT, ABSENT, ABSENT);
    x.hate(1, 3, 90);
    ring("90 at 3", x, 2, 121, ABSENT, 0, ABSENT, 1, ABSENT);
    WassailEnemies y = Due.under("cold 50 p=1;need 0");
    y.hater(0, 0, 0);
    y.hater(0, 0, 40);
    ring("need 0: FORCE 0 bears, -10 not, nor counts", y, 1, 0, 0, 1, ABSENT, ABSENT, ABSENT);
  }

  private static void ringGone() {
    WassailEnemies x = new WassailEnemies();
    x.hater(0, 0, 0);
    x.hater(0, 0, 50);
    x.hater(0, 0, 60);
    x.leave(1, true);
    ring("1 is gone", x, 1, 60, 0, 2, ABSENT, ABSENT, ABSENT);
    x.lead(3, 1);
    x.lead(4, 0);
    ring("who leads does not matter", x, 1, 60, 0, 2, ABSENT, ABSENT, ABSENT);
    Due.is("asking changes nothing: told(24)", x.told(24), 0);
    Due.is("asking changes nothing: told(21)", x.told(21), ABSENT);
  }

  private static void ringWrong() {
    WassailEnemies x = new WassailEnemies();
    x.hater(0, 0, 50);
    for (int what : new int[] {-1, 2, 9, 15, 20, -10, MIN, MIN + 10, MAX}) {
      Due.is("ring(" + what + ")", x.ring(what), NO_SUCH);
    }
  }

  private static void turnOfNone() {
    WassailEnemies x = new WassailEnemies();
    for (int k = -1; k <= 2; k++) {
      Due.is("no HATERS: turn(0, 3, " + k + ")", x.turn(0, 3, k), ABSENT);
    }
    Due.is("no HATERS, bad: turn(0, 4, 0)", x.turn(0, 4, 0), BAD);
  }

  private static void turns(String what, WassailEnemies x, int tree, int most, int... row) {
    Due.is(what + ": turn(" + tree + ", n, -1)", x.turn(tree, row.length, -1), most);
    for (int k = 0; k < 3; k++) {
      int due = k < row.length ? row[k] : ABSENT;
      Due.is(what + ": turn(" + tree + ", n, " + k + ")", x.turn(tree, row.length, k), due);
    }
  }

  private static void turns() {
    WassailEnemies x = new WassailEnemies();
    x.hater(0, 0, 0);
    x.hater(0, 0, 0);
    x.hater(0, 0, 0);
    turns("none bears", x, 2, 0, 0, 0, 0);
    turns("none bears", x, 2, 0, 0);
    x.hate(1, 2, 20);
    turns("1 bears once, the first row", x, 2, 1, 0, 0, 1);
    turns("1 bears once, the first row", x, 2, 1, 0, 1);
    turns("1 bears once", x, 2, 1, 1);
    x.hate(2, 2, 23);
    turns("1 once, 2 twice", x, 2, 3, 1, 2, 2);
    turns("1 once, 2 twice", x, 2, 2, 1, 2);
    x.leave(2, true);
    turns("2 is gone: in a row, but not bearing", x, 2, 1, 0, 0, 1);
    x.leave(1, true);
    turns("both are gone", x, 2, 0, 0, 0, 0);
    turns("at another TREE", x, 1, 0, 0, 0, 0);
  }

  /** YEARS count: a GROWLER is half as strong in odd ones, and each YEAR of bearing wears. */
  private static void turnsWear() {
    WassailEnemies x = new WassailEnemies();
    x.hater(4, 0, 30);
    x.hater(0, 0, 20);
    turns("GROWLER, HATER, GROWLER", x, 0, 3, 0, 1, 0);
    x.pass(1);
    turns("two of three, the first row: GROWLER, GROWLER, HATER", x, 0, 2, 0, 0, 1);
    x.hate(1, 0, 23);
    turns("HATER, GROWLER, HATER", x, 0, 3, 1, 0, 1);
    x.lead(0, 0);
    x.lead(1, 1);
    turns("who leads does not matter", x, 0, 3, 1, 0, 1);
    Due.is("asking changes nothing: of(1, 10)", x.of(1, 10), 23);
    Due.is("asking changes nothing: told(0)", x.told(0), 1);
    Due.is("asking changes nothing: told(10)", x.told(10), 0);
    Due.is("asking changes nothing: told(20)", x.told(20), 0);
  }

  private static void turnWrong() {
    WassailEnemies x = new WassailEnemies();
    x.hater(0, 0, 50);
    for (int tree : new int[] {-1, 5, MIN, MAX}) {
      Due.is("turn(" + tree + ", 1, 0)", x.turn(tree, 1, 0), NONE);
      Due.is("turn(" + tree + ", 0, 0)", x.turn(tree, 0, 0), NONE);
    }
    for (int k : new int[] {-2, 3, MIN, MAX}) {
      Due.is("turn(0, 3, " + k + ")", x.turn(0, 3, k), NONE);
      Due.is("turn(0, 4, " + k + ")", x.turn(0, 4, k), NONE);
    }
    for (int n : new int[] {0, 4, -1, MIN, MAX}) {
      Due.is("turn(0, " + n + ", -1)", x.turn(0, n, -1), BAD);
      Due.is("turn(0, " + n + ", 2)", x.turn(0, n, 2), BAD);
    }
  }
}
