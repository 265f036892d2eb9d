/** Promises 20 to 23: plan, ends, book, looked. */
final class PlanSentences extends Sentences {
  private PlanSentences() {}

  static void all() {
    Doc.part("Promise 20");
    Doc.says("A row comes to the PLAN: how many there are", PlanSentences::plan);
    Doc.says("(what -1: it is empty then, 0, whatever the other is).", PlanSentences::planNoMore);
    Doc.says("NONE: what (0 .. 3),", PlanSentences::planNone);
    Doc.says("HATER (by 1, 2),", PlanSentences::planHaterNone);
    Doc.says("TREE, HATER (by 3;", PlanSentences::planLeaderNone);
    Doc.says("TREE, HATER (by 3;", PlanSentences::planLeaders);
    Doc.says("by 0 n does not matter);", PlanSentences::planYear);
    Doc.says("FULL: 10.", PlanSentences::planFull);
    Doc.part("Promise 21");
    Doc.says("ENDS: what 0 BORE, 1 HATE.", PlanSentences::ends);
    Doc.says("NONE.", PlanSentences::endsNone);
    Doc.part("Promise 22");
    Doc.says("A row comes to the BOOK: how many there are", PlanSentences::book);
    Doc.says("(tree -1: it is empty then, 0, whatever the other is).", PlanSentences::bookNoMore);
    Doc.says("NONE;", PlanSentences::bookNone);
    Doc.says("BAD: bore;", PlanSentences::bookBad);
    Doc.says("FULL: 8.", PlanSentences::bookFull);
    Doc.part("Promise 23");
    Doc.says("LOOKED at;", PlanSentences::looked);
    Doc.says("-5.", PlanSentences::lookedNone);
  }

  private static void plan() {
    WassailEnemies x = hating(50, 50);
    int[] rows = {0, 0, 1, 1, 2, 3, 3, 3, 3, 3};
    int[] ns = {0, 7, 0, 1, 1, 0, 9, 41, 49, 10};
    for (int i = 0; i < 10; i++) {
      is("plan(" + rows[i] + ", " + ns[i] + ")", x.plan(rows[i], ns[i]), i + 1);
      is("count(3)", x.count(3), i + 1);
    }
  }

  private static void planNoMore() {
    WassailEnemies x = hating(50);
    is("empty already: plan(-1, MIN)", x.plan(-1, MIN), 0);
    x.lead(0, 0);
    x.plan(0, 0);
    x.plan(0, 0);
    is("plan(-1, MAX)", x.plan(-1, MAX), 0);
    is("count(3)", x.count(3), 0);
    is("ends(0)", x.ends(0), 0);
    is("plan(1, 0)", x.plan(1, 0), 1);
    is("rows from before do not count: ends(0)", x.ends(0), 0);
  }

  private static void planNone() {
    WassailEnemies x = hating(50);
    for (int what : outside(-1, 3)) {
      is("plan(" + what + ", 0)", x.plan(what, 0), NONE);
    }
    is("count(3)", x.count(3), 0);
  }

  private static void planHaterNone() {
    WassailEnemies x = hating(50, 50);
    for (int hater : new int[] {MIN, -1, 2, 9, 10, MAX}) {
      is("plan(1, " + hater + ")", x.plan(1, hater), NONE);
      is("plan(2, " + hater + ")", x.plan(2, hater), NONE);
    }
    is("count(3)", x.count(3), 0);
    is("no HATERS: plan(1, 0)", new WassailEnemies().plan(1, 0), NONE);
    is("no HATERS: plan(2, 0)", new WassailEnemies().plan(2, 0), NONE);
    is("plan(2, 1)", x.plan(2, 1), 1);
  }

  private static void planLeaderNone() {
    WassailEnemies x = hating(50, 50);
    for (int n : new int[] {MIN, -10, -9, -1, 2, 8, 12, 42, 48, 50, 51, 59, 100, MAX}) {
      is("plan(3, " + n + ")", x.plan(3, n), NONE);
    }
    is("count(3)", x.count(3), 0);
    is("plan(3, 41)", x.plan(3, 41), 1);
    is("plan(3, 49)", x.plan(3, 49), 2);
    WassailEnemies none = new WassailEnemies();
    is("no HATERS: plan(3, 0)", none.plan(3, 0), NONE);
    is("no HATERS: plan(3, 9)", none.plan(3, 9), 1);
  }

  /** Only one HATER bears at only one TREE, so ENDS tells whether just that one came to lead there. */
  private static void planLeaders() {
    for (int n = 0; n < 50; n++) {
      int tree = n / 10;
      int hater = n % 10;
      WassailEnemies x = hating(0, 0, 0, 0, 0, 0);
      x.hate(Math.min(hater, 5), tree, 50);
      is("plan(3, " + n + ")", x.plan(3, n), hater < 6 || hater == 9 ? 1 : NONE);
      x.plan(0, 0);
      is("plan(3, " + n + "), a YEAR: ends(0)", x.ends(0), hater < 6 ? 1 : 0);
    }
  }

  private static void planYear() {
    WassailEnemies x = hating(99);
    x.lead(0, 0);
    int[] ns = {MIN, -1, 5, MAX};
    for (int i = 0; i < ns.length; i++) {
      is("plan(0, " + ns[i] + ")", x.plan(0, ns[i]), i + 1);
    }
    is("each is one YEAR: ends(0)", x.ends(0), 4);
  }

  private static void planFull() {
    WassailEnemies x = hating(99);
    x.lead(0, 0);
    for (int i = 1; i <= 10; i++) {
      is("plan(0, 0)", x.plan(0, 0), i);
    }
    is("an eleventh: plan(0, 0)", x.plan(0, 0), FULL);
    is("behind NONE: plan(4, 0)", x.plan(4, 0), NONE);
    is("behind NONE: plan(1, 1)", x.plan(1, 1), NONE);
    is("ends(0)", x.ends(0), 10);
    is("plan(-1, 0)", x.plan(-1, 0), 0);
    is("plan(0, 0)", x.plan(0, 0), 1);
  }

  private static void ends() {
    WassailEnemies x = hating(50, 20);
    x.lead(0, 0);
    x.lead(4, 1);
    x.pass(2);
    x.plan(0, 0);
    is("ends(0)", x.ends(0), 4);
    is("ends(1)", x.ends(1), 350 - 4 * 3);
    is("told(4)", x.told(4), 3);
  }

  private static void endsNone() {
    WassailEnemies x = hating(50);
    for (int what : outside(0, 1)) {
      is("ends(" + what + ")", x.ends(what), NONE);
    }
  }

  private static void book() {
    WassailEnemies x = new WassailEnemies();
    for (int i = 1; i <= 8; i++) {
      is("book", x.book(i % 5, i == 8 ? 9999 : 0), i);
      is("count(4)", x.count(4), i);
    }
  }

  private static void bookNoMore() {
    WassailEnemies x = new WassailEnemies();
    is("empty already: book(-1, MIN)", x.book(-1, MIN), 0);
    x.book(0, 1);
    x.book(0, 1);
    is("book(-1, MAX)", x.book(-1, MAX), 0);
    is("count(4)", x.count(4), 0);
    is("looked()", x.looked(), ABSENT);
    is("book(0, 0)", x.book(0, 0), 1);
    is("rows from before do not count: looked()", x.looked(), ABSENT);
  }

  private static void bookNone() {
    WassailEnemies x = new WassailEnemies();
    for (int tree : outside(-1, 4)) {
      is("book(" + tree + ", 0)", x.book(tree, 0), NONE);
      is("ahead of BAD: book(" + tree + ", -1)", x.book(tree, -1), NONE);
    }
    is("count(4)", x.count(4), 0);
  }

  private static void bookBad() {
    WassailEnemies x = new WassailEnemies();
    for (int bore : outside(0, 9999)) {
      is("book(4, " + bore + ")", x.book(4, bore), BAD);
    }
    is("count(4)", x.count(4), 0);
    is("book(4, 9999)", x.book(4, 9999), 1);
    is("book(4, 0)", x.book(4, 0), 2);
  }

  private static void bookFull() {
    WassailEnemies x = new WassailEnemies();
    for (int i = 1; i <= 8; i++) {
      is("book(0, 0)", x.book(0, 0), i);
    }
    is("a ninth: book(0, 1)", x.book(0, 1), FULL);
    is("behind NONE: book(5, 0)", x.book(5, 0), NONE);
    is("behind BAD: book(0, 10000)", x.book(0, 10000), BAD);
    is("count(4)", x.count(4), 8);
    is("looked()", x.looked(), ABSENT);
    is("book(-1, 0)", x.book(-1, 0), 0);
    is("book(0, 0)", x.book(0, 0), 1);
  }

  private static void looked() {
    for (int row = 0; row < 8; row++) {
      WassailEnemies x = hating(50);
      x.lead(3, 0);
      x.pass(2);
      for (int i = 0; i < 8; i++) {
        x.book(3, i >= row ? 1 : 2);
      }
      is("looked()", x.looked(), row);
    }
  }

  private static void lookedNone() {
    WassailEnemies x = hating(50);
    is("an empty BOOK: looked()", x.looked(), ABSENT);
    x.lead(3, 0);
    x.pass(2);
    for (int i = 0; i < 8; i++) {
      x.book(i % 5, i % 5 == 3 ? 2 : 0);
    }
    is("all are so: looked()", x.looked(), ABSENT);
  }
}
