/** Promises 20 to 23: plan, ends, book, looked. */
public final class PlanTest {
  private static final int NONE = -1, BAD = -2, FULL = -4, ABSENT = -5;
  private static final int MIN = Integer.MIN_VALUE, MAX = Integer.MAX_VALUE;

  public static void main(String[] args) {
    plan();
    planWrong();
    ends();
    endsByLeaders();
    book();
    looked();
    Due.end("PlanTest");
  }

  private static void plan() {
    WassailEnemies x = new WassailEnemies();
    x.hater(0, 0, 50);
    x.hater(0, 0, 50);
    Due.is("plan(-1, MIN)", x.plan(-1, MIN), 0);
    Due.is("plan(0, MIN)", x.plan(0, MIN), 1);
    Due.is("plan(0, MAX)", x.plan(0, MAX), 2);
    Due.is("plan(1, 0)", x.plan(1, 0), 3);
    Due.is("plan(1, 1)", x.plan(1, 1), 4);
    Due.is("plan(2, 1)", x.plan(2, 1), 5);
    Due.is("plan(3, 0)", x.plan(3, 0), 6);
    Due.is("plan(3, 9)", x.plan(3, 9), 7);
    Due.is("plan(3, 41)", x.plan(3, 41), 8);
    Due.is("plan(3, 49)", x.plan(3, 49), 9);
    Due.is("plan(3, 10)", x.plan(3, 10), 10);
    Due.is("an eleventh: plan(0, 0)", x.plan(0, 0), FULL);
    Due.is("an eleventh, none: plan(1, 2)", x.plan(1, 2), NONE);
    Due.is("count(3)", x.count(3), 10);
    Due.is("plan(-1, 0)", x.plan(-1, 0), 0);
    Due.is("count(3)", x.count(3), 0);
    Due.is("empty: ends(0)", x.ends(0), 0);
    Due.is("plan(2, 0)", x.plan(2, 0), 1);
  }

  private static void planWrong() {
    WassailEnemies x = new WassailEnemies();
    Due.is("no HATERS: plan(3, 9)", x.plan(3, 9), 1);
    Due.is("no HATERS: plan(3, 0)", x.plan(3, 0), NONE);
    x.hater(0, 0, 50);
    x.hater(0, 0, 50);
    for (int what : new int[] {-2, 4, MIN, MAX}) {
      Due.is("plan(" + what + ", 0)", x.plan(what, 0), NONE);
    }
    for (int n : new int[] {-1, 2, 9, MIN, MAX}) {
      Due.is("plan(1, " + n + ")", x.plan(1, n), NONE);
      Due.is("plan(2, " + n + ")", x.plan(2, n), NONE);
    }
    for (int n : new int[] {-1, -9, -10, 2, 8, 42, 48, 50, 51, 59, 100, MIN, MAX}) {
      Due.is("plan(3, " + n + ")", x.plan(3, n), NONE);
    }
    Due.is("count(3)", x.count(3), 1);
  }

  private static void ends(String what, WassailEnemies x, int bore, int hate) {
    Due.is(what + ": ends(0)", x.ends(0), bore);
    Due.is(what + ": ends(1)", x.ends(1), hate);
  }

  private static void ends() {
    WassailEnemies x = new WassailEnemies();
    ends("nothing", x, 0, 0);
    x.hater(0, 0, 50);
    x.hater(0, 0, 30);
    x.lead(0, 0);
    x.lead(1, 1);
    x.pass(1);
    ends("as it is", x, 2, 394);
    x.plan(0, 0);
    ends("a YEAR", x, 4, 388);
    x.plan(1, 0);
    ends("gone, but without a YEAR", x, 4, 388);
    x.plan(0, 0);
    ends("a YEAR with one gone", x, 5, 385);
    x.plan(2, 0);
    x.plan(0, 0);
    ends("27, 24, 21 by then", x, 7, 379);
    x.plan(0, 0);
    x.plan(0, 0);
    ends("18 no more", x, 9, 373);
    Due.is("asking changes nothing: told(4)", x.told(4), 2);
    Due.is("asking changes nothing: of(0, 2)", x.of(0, 2), 0);
    x.pass(1);
    ends("from how all is now", x, 10, 370);
    for (int what : new int[] {-1, 2, MIN, MAX}) {
      Due.is("ends(" + what + ")", x.ends(what), NONE);
    }
    WassailEnemies back = new WassailEnemies();
    back.hater(0, 0, 1);
    back.image();
    back.hater(0, 0, 50);
    back.undo();
    ends("one who came behind THE IMAGE does not count", back, 0, 5);
  }

  private static void endsByLeaders() {
    WassailEnemies x = new WassailEnemies();
    x.hater(0, 0, 90);
    x.hater(0, 0, 10);
    x.lead(2, 0);
    x.plan(3, 30);
    x.plan(0, 0);
    ends("leads at 3, and at 2 no more", x, 1, 497);
    x.plan(3, 31);
    x.plan(0, 0);
    ends("10 in place of 90", x, 1, 497);
    x.plan(3, 0);
    x.plan(3, 9);
    x.plan(0, 0);
    ends("nobody", x, 1, 497);
    x.plan(3, 40);
    x.plan(0, 0);
    ends("at 4", x, 2, 494);
    Due.is("asking changes nothing: told(22)", x.told(22), 0);
    Due.is("asking changes nothing: told(23)", x.told(23), ABSENT);
  }

  private static void book() {
    WassailEnemies x = new WassailEnemies();
    Due.is("book(-1, MIN)", x.book(-1, MIN), 0);
    for (int tree : new int[] {-2, 5, MIN, MAX}) {
      Due.is("book(" + tree + ", -1)", x.book(tree, -1), NONE);
    }
    for (int bore : new int[] {-1, 10000, MIN, MAX}) {
      Due.is("book(0, " + bore + ")", x.book(0, bore), BAD);
    }
    Due.is("count(4)", x.count(4), 0);
    for (int i = 1; i <= 8; i++) {
      Due.is("book " + i, x.book(i % 5, i == 8 ? 9999 : 0), i);
    }
    Due.is("a ninth: book(0, 0)", x.book(0, 0), FULL);
    Due.is("a ninth, bad: book(0, 10000)", x.book(0, 10000), BAD);
    Due.is("a ninth, none: book(5, 0)", x.book(5, 0), NONE);
    Due.is("count(4)", x.count(4), 8);
    Due.is("looked()", x.looked(), 7);
    Due.is("book(-1, 0)", x.book(-1, 0), 0);
    Due.is("count(4)", x.count(4), 0);
    Due.is("looked()", x.looked(), ABSENT);
  }

  private static void looked() {
    WassailEnemies x = new WassailEnemies();
    x.hater(0, 0, 50);
    x.lead(3, 0);
    x.pass(2);
    Due.is("nothing: looked()", x.looked(), ABSENT);
    x.book(3, 2);
    Due.is("looked()", x.looked(), ABSENT);
    x.book(2, 0);
    x.book(3, 3);
    x.book(2, 1);
    Due.is("3 has not 3: looked()", x.looked(), 2);
    x.pass(1);
    Due.is("3 has not 2: looked()", x.looked(), 0);
    x.book(-1, 0);
    x.book(3, 3);
    Due.is("rows from before do not count: looked()", x.looked(), ABSENT);
  }
}
