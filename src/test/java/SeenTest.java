/** Promises 15 to 19: see, hates, can, odds, mean. */
public final class SeenTest {
  private static final int NONE = -1, BAD = -2, FULL = -4, ABSENT = -5;
  private static final int MIN = Integer.MIN_VALUE, MAX = Integer.MAX_VALUE;
  private static final long NO = Long.MIN_VALUE;

  public static void main(String[] args) {
    see();
    hates();
    hatesOfBoth();
    hatesByYear();
    can();
    canNone();
    odds();
    mean();
    Due.end("SeenTest");
  }

  private static void see() {
    WassailEnemies x = new WassailEnemies();
    Due.is("no HATERS: see(-1, ..)", x.see(-1, 99, 99, true), 0);
    x.hater(0, 0, 50);
    for (int hater : new int[] {-2, 1, 6, MIN, MAX}) {
      Due.is("see(" + hater + ", 0, 21, true)", x.see(hater, 0, 21, true), NONE);
    }
    for (int tree : new int[] {-1, 5, MIN, MAX}) {
      Due.is("see(0, " + tree + ", 21, true)", x.see(0, tree, 21, true), NONE);
    }
    for (int n : new int[] {-1, 21, MIN, MAX}) {
      Due.is("see(0, 0, " + n + ", true)", x.see(0, 0, n, true), BAD);
    }
    Due.is("count(2)", x.count(2), 0);
    for (int i = 1; i <= 5; i++) {
      Due.is("see " + i, x.see(0, 4, 20, i % 2 == 0), i);
    }
    Due.is("a sixth: see(0, 0, 0, true)", x.see(0, 0, 0, true), FULL);
    Due.is("a sixth, bad: see(0, 0, 21, true)", x.see(0, 0, 21, true), BAD);
    Due.is("a sixth, none: see(1, 0, 0, true)", x.see(1, 0, 0, true), NONE);
    Due.is("count(2)", x.count(2), 5);
    Due.is("see(-1, ..)", x.see(-1, MIN, MAX, false), 0);
    Due.is("count(2)", x.count(2), 0);
    Due.is("see(0, 0, 0, true)", x.see(0, 0, 0, true), 1);
  }

  private static void hates(String what, WassailEnemies x, int hater, int tree, int many, int least) {
    Due.is(what + ": hates(.., 0)", x.hates(hater, tree, 0), many);
    Due.is(what + ": hates(.., 1)", x.hates(hater, tree, 1), least);
  }

  private static void hates() {
    WassailEnemies x = new WassailEnemies();
    x.hater(0, 0, 50);
    hates("nothing seen", x, 0, 3, 100, 0);
    x.see(0, 3, 0, true);
    hates("bears: 20 and more", x, 0, 3, 80, 20);
    x.see(0, 3, 7, false);
    hates("both ways", x, 0, 3, 0, ABSENT);
    x.see(-1, 0, 0, false);
    x.see(0, 3, 0, false);
    hates("does not: below 20", x, 0, 3, 20, 0);
    Due.is("asking changes nothing: of(0, 13)", x.of(0, 13), 50);
    x.leave(0, true);
    hates("gone, so none bears: all are so", x, 0, 3, 100, 0);
    x.see(-1, 0, 0, false);
    x.see(0, 3, 0, true);
    hates("gone, so none bears", x, 0, 3, 0, ABSENT);
    for (int bad : new int[] {-1, 1, 6, MIN, MAX}) {
      Due.is("hates(" + bad + ", 0, 0)", x.hates(bad, 0, 0), NONE);
    }
    for (int bad : new int[] {-1, 5, MIN, MAX}) {
      Due.is("hates(0, " + bad + ", 0)", x.hates(0, bad, 0), NONE);
    }
    for (int bad : new int[] {-1, 2, MIN, MAX}) {
      Due.is("hates(0, 0, " + bad + ")", x.hates(0, 0, bad), NONE);
    }
  }

  private static void hatesOfBoth() {
    WassailEnemies x = Due.under("cold 30 h>6");
    x.hater(0, 0, 0);
    x.hater(2, 0, 0);
    x.see(0, 0, 0, true);
    x.see(0, 1, 0, false);
    x.see(1, 0, 0, false);
    hates("20 .. 69, 70 .. 99 less 30", x, 0, 0, 80, 20);
    hates("of that TREE alone", x, 0, 1, 20, 0);
    hates("of that HATER alone", x, 1, 0, 20, 0);
    hates("of neither", x, 1, 1, 100, 0);
    Due.orchard(x, "cold 60 h>6");
    hates("70 .. 79 less 60 are below 20", x, 0, 0, 70, 20);
    Due.orchard(x, "need 99;cold 1 h>8");
    hates("99 less 1", x, 0, 0, 0, ABSENT);
  }

  /** YEARS from now: a GROWLER is half as strong in odd ones, HATE being as now all the time. */
  private static void hatesByYear() {
    WassailEnemies x = new WassailEnemies();
    x.hater(4, 5, 0);
    x.see(0, 0, 2, true);
    hates("in an even YEAR", x, 0, 0, 80, 20);
    x.see(0, 0, 3, false);
    hates("and not in an odd one: 20 .. 39", x, 0, 0, 20, 20);
    x.pass(1);
    hates("a YEAR on odd and even are otherwise", x, 0, 0, 0, ABSENT);
    x.see(-1, 0, 0, false);
    x.see(0, 1, 20, true);
    hates("the half of HATE and 5 is 20: 35 and more", x, 0, 1, 65, 35);
  }

  private static void can(String what, WassailEnemies x, int hater, int many, int least) {
    Due.is(what + ": can(.., 0)", x.can(hater, 0), many);
    Due.is(what + ": can(.., 1)", x.can(hater, 1), least);
  }

  private static void can() {
    WassailEnemies x = new WassailEnemies();
    x.hater(1, 9, 15);
    x.hater(0, 0, 15);
    can("nothing seen", x, 0, 10, 0);
    x.see(0, 3, 5, true);
    can("15 and v are 20", x, 0, 5, 5);
    can("another is not meant", x, 1, 10, 0);
    x.hate(0, 1, 12);
    x.see(0, 1, 0, false);
    can("and 12 and v are not", x, 0, 3, 5);
    x.see(1, 1, 0, true);
    can("a HATER's v does not count", x, 1, 0, ABSENT);
    Due.is("asking changes nothing: of(0, 1)", x.of(0, 1), 9);
    Due.is("asking changes nothing: of(0, 23)", x.of(0, 23), 24);
    Due.orchard(x, "hot 5 v=2|v=4");
    can("2 bears with 15, not with 12; 4 bears with both; 5 .. 7", x, 0, 4, 2);
    can("2 and 4: 15 + 5", x, 1, 2, 2);
    Due.is("hates by v as it is: hates(1, 1, 1)", x.hates(1, 1, 1), 20);
  }

  private static void canNone() {
    WassailEnemies x = new WassailEnemies();
    x.hater(4, 0, 31);
    x.see(0, 1, 1, true);
    can("the half of 31 and 9 is 20", x, 0, 1, 9);
    x.leave(0, true);
    can("gone", x, 0, 0, ABSENT);
    for (int bad : new int[] {-1, 1, MIN, MAX}) {
      Due.is("can(" + bad + ", 0)", x.can(bad, 0), NONE);
    }
    for (int bad : new int[] {-1, 2, MIN, MAX}) {
      Due.is("can(0, " + bad + ")", x.can(0, bad), NONE);
    }
  }

  private static void fraction(String what, long above, long below, long wantAbove, long wantBelow) {
    Due.is(what + ", above", above, wantAbove);
    Due.is(what + ", below", below, wantBelow);
  }

  private static void odds() {
    WassailEnemies x = new WassailEnemies();
    Due.is("no HATERS: odds(0, 0)", x.odds(0, 0), NO);
    Due.is("no HATERS: odds(0, 1)", x.odds(0, 1), NO);
    x.hater(0, 0, 10);
    fraction("0 of 1", x.odds(2, 0), x.odds(2, 1), 0, 1);
    x.hater(0, 0, 20);
    fraction("1 of 2", x.odds(2, 0), x.odds(2, 1), 1, 2);
    x.hater(0, 0, 19);
    x.hater(0, 0, 99);
    fraction("2 of 4", x.odds(2, 0), x.odds(2, 1), 1, 2);
    x.hater(0, 0, 99);
    x.hater(0, 0, 99);
    fraction("4 of 6", x.odds(2, 0), x.odds(2, 1), 2, 3);
    x.leave(5, true);
    fraction("3 of 6, one is gone", x.odds(2, 0), x.odds(2, 1), 1, 2);
    x.hate(0, 2, 50);
    x.hate(2, 2, 50);
    fraction("5 of 6", x.odds(2, 0), x.odds(2, 1), 5, 6);
    x.leave(5, false);
    fraction("6 of 6", x.odds(2, 0), x.odds(2, 1), 1, 1);
    fraction("4 of 6 at another", x.odds(4, 0), x.odds(4, 1), 2, 3);
    for (int bad : new int[] {-1, 5, MIN, MAX}) {
      Due.is("odds(" + bad + ", 0)", x.odds(bad, 0), NO);
    }
    for (int bad : new int[] {-1, 2, MIN, MAX}) {
      Due.is("odds(0, " + bad + ")", x.odds(0, bad), NO);
    }
  }

  private static void mean() {
    WassailEnemies x = new WassailEnemies();
    Due.is("no HATERS: mean(0, 0)", x.mean(0, 0), NO);
    Due.is("no HATERS: mean(0, 1)", x.mean(0, 1), NO);
    x.hater(0, 0, 0);
    fraction("0 by 1", x.mean(1, 0), x.mean(1, 1), 0, 1);
    x.hater(0, 0, 99);
    fraction("99 by 2", x.mean(1, 0), x.mean(1, 1), 99, 2);
    x.hater(3, 0, 21);
    fraction("120 by 3", x.mean(1, 0), x.mean(1, 1), 40, 1);
    x.leave(1, true);
    fraction("gone or not", x.mean(1, 0), x.mean(1, 1), 40, 1);
    x.hater(0, 0, 1);
    fraction("121 by 4", x.mean(1, 0), x.mean(1, 1), 121, 4);
    x.hate(3, 1, 2);
    fraction("122 by 4", x.mean(1, 0), x.mean(1, 1), 61, 2);
    fraction("121 by 4 at another", x.mean(0, 0), x.mean(0, 1), 121, 4);
    x.hater(0, 0, 0);
    x.hater(0, 0, 4);
    fraction("126 by 6", x.mean(1, 0), x.mean(1, 1), 21, 1);
    x.hate(4, 1, 2);
    fraction("128 by 6", x.mean(1, 0), x.mean(1, 1), 64, 3);
    x.hate(4, 1, 3);
    fraction("129 by 6", x.mean(1, 0), x.mean(1, 1), 43, 2);
    x.hate(0, 1, 3);
    fraction("132 by 6", x.mean(1, 0), x.mean(1, 1), 22, 1);
    for (int bad : new int[] {-1, 5, MIN, MAX}) {
      Due.is("mean(" + bad + ", 0)", x.mean(bad, 0), NO);
    }
    for (int bad : new int[] {-1, 2, MIN, MAX}) {
      Due.is("mean(0, " + bad + ")", x.mean(0, bad), NO);
    }
  }
}
