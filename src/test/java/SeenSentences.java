/** Promises 15 to 19: see, hates, can, odds, mean. */
final class SeenSentences extends Sentences {
  private SeenSentences() {}

  static void all() {
    Doc.part("Promise 15");
    Doc.says("What is SEEN comes: how many there are", SeenSentences::see);
    Doc.says("(hater -1: none then, 0, whatever the others are).", SeenSentences::seeNoMore);
    Doc.says("NONE: hater, tree;", SeenSentences::seeNone);
    Doc.says("BAD: n;", SeenSentences::seeBad);
    Doc.says("FULL: 5.", SeenSentences::seeFull);
    Doc.part("Promise 16");
    Doc.says("HATES: what 0 how many, 1 the least; -5.", SeenSentences::hates);
    Doc.says("NONE.", SeenSentences::hatesNone);
    Doc.part("Promise 17");
    Doc.says("CAN: what 0 how many, 1 the least; -5.", SeenSentences::can);
    Doc.says("NONE.", SeenSentences::canNone);
    Doc.part("Promise 18");
    Doc.says("ODDS; part 0 above, 1 below the line.", SeenSentences::odds);
    Doc.says("NO: tree, part, no HATERS.", SeenSentences::oddsNo);
    Doc.part("Promise 19");
    Doc.says("MEAN; part likewise.", SeenSentences::mean);
    Doc.says("NO likewise.", SeenSentences::meanNo);
  }

  private static void see() {
    WassailEnemies x = hating(50);
    is("see(0, 0, 0, true)", x.see(0, 0, 0, true), 1);
    is("see(0, 4, 20, false)", x.see(0, 4, 20, false), 2);
    is("the same again: see(0, 4, 20, false)", x.see(0, 4, 20, false), 3);
    is("count(2)", x.count(2), 3);
    is("bears: hates(0, 0, 1)", x.hates(0, 0, 1), 20);
    is("does not bear: hates(0, 4, 0)", x.hates(0, 4, 0), 20);
    x.leave(0, true);
    is("GONE: see(0, 0, 0, true)", x.see(0, 0, 0, true), 4);
  }

  private static void seeNoMore() {
    WassailEnemies x = new WassailEnemies();
    is("no HATERS: see(-1, MIN, MAX, true)", x.see(-1, MIN, MAX, true), 0);
    x.hater(HATER, 0, 50);
    x.see(0, 0, 0, false);
    x.see(0, 0, 0, true);
    is("see(-1, 5, 21, true)", x.see(-1, 5, 21, true), 0);
    is("count(2)", x.count(2), 0);
    is("hates(0, 0, 0)", x.hates(0, 0, 0), 100);
    is("see(-1, 0, 0, false)", x.see(-1, 0, 0, false), 0);
    is("see(0, 0, 0, true)", x.see(0, 0, 0, true), 1);
    is("rows from before do not count: hates(0, 0, 0)", x.hates(0, 0, 0), 80);
  }

  private static void seeNone() {
    WassailEnemies x = hating(50, 50);
    for (int hater : outside(-1, 1)) {
      is("see(" + hater + ", 0, 0, true)", x.see(hater, 0, 0, true), NONE);
      is("ahead of BAD: see(" + hater + ", 0, 21, true)", x.see(hater, 0, 21, true), NONE);
    }
    for (int tree : outside(0, 4)) {
      is("see(0, " + tree + ", 0, true)", x.see(0, tree, 0, true), NONE);
      is("ahead of BAD: see(0, " + tree + ", -1, true)", x.see(0, tree, -1, true), NONE);
    }
    is("count(2)", x.count(2), 0);
    is("no HATERS: see(0, 0, 0, true)", new WassailEnemies().see(0, 0, 0, true), NONE);
  }

  private static void seeBad() {
    WassailEnemies x = hating(50);
    for (int n : outside(0, 20)) {
      is("see(0, 0, " + n + ", true)", x.see(0, 0, n, true), BAD);
    }
    is("count(2)", x.count(2), 0);
    is("see(0, 0, 20, true)", x.see(0, 0, 20, true), 1);
  }

  private static void seeFull() {
    WassailEnemies x = hating(50);
    for (int i = 1; i <= 5; i++) {
      is("see", x.see(0, 0, 0, true), i);
    }
    is("a sixth", x.see(0, 0, 0, true), FULL);
    is("behind BAD: see(0, 0, 21, true)", x.see(0, 0, 21, true), BAD);
    is("behind NONE: see(1, 0, 0, true)", x.see(1, 0, 0, true), NONE);
    is("count(2)", x.count(2), 5);
    is("see(-1, 0, 0, true)", x.see(-1, 0, 0, true), 0);
    is("see(0, 0, 0, true)", x.see(0, 0, 0, true), 1);
  }

  private static void hates() {
    WassailEnemies x = hating(50);
    is("hates(0, 3, 0)", x.hates(0, 3, 0), 100);
    is("hates(0, 3, 1)", x.hates(0, 3, 1), 0);
    x.see(0, 3, 0, true);
    is("hates(0, 3, 0)", x.hates(0, 3, 0), 80);
    is("hates(0, 3, 1)", x.hates(0, 3, 1), 20);
    x.see(0, 3, 0, false);
    is("none: hates(0, 3, 0)", x.hates(0, 3, 0), 0);
    is("none: hates(0, 3, 1)", x.hates(0, 3, 1), ABSENT);
  }

  private static void hatesNone() {
    WassailEnemies x = hating(50, 50);
    for (int hater : outside(0, 1)) {
      is("hates(" + hater + ", 0, 0)", x.hates(hater, 0, 0), NONE);
    }
    for (int tree : outside(0, 4)) {
      is("hates(0, " + tree + ", 0)", x.hates(0, tree, 0), NONE);
    }
    for (int what : outside(0, 1)) {
      is("hates(0, 0, " + what + ")", x.hates(0, 0, what), NONE);
    }
  }

  private static void can() {
    WassailEnemies x = one(UNCLE, 0, 15);
    is("can(0, 0)", x.can(0, 0), 10);
    is("can(0, 1)", x.can(0, 1), 0);
    x.see(0, 3, 0, true);
    is("can(0, 0)", x.can(0, 0), 5);
    is("can(0, 1)", x.can(0, 1), 5);
    x.see(0, 3, 0, false);
    is("none: can(0, 0)", x.can(0, 0), 0);
    is("none: can(0, 1)", x.can(0, 1), ABSENT);
  }

  private static void canNone() {
    WassailEnemies x = hating(50, 50);
    for (int hater : outside(0, 1)) {
      is("can(" + hater + ", 0)", x.can(hater, 0), NONE);
    }
    for (int what : outside(0, 1)) {
      is("can(0, " + what + ")", x.can(0, what), NONE);
    }
  }

  private static void odds() {
    WassailEnemies x = hating(50, 19, 20, 19, 19, 20);
    is("3 of 6: odds(0, 0)", x.odds(0, 0), 1);
    is("3 of 6: odds(0, 1)", x.odds(0, 1), 2);
    x.hate(5, 4, 0);
    is("2 of 6: odds(4, 0)", x.odds(4, 0), 1);
    is("2 of 6: odds(4, 1)", x.odds(4, 1), 3);
  }

  private static void oddsNo() {
    is("no HATERS: odds(0, 0)", new WassailEnemies().odds(0, 0), NO);
    is("no HATERS: odds(0, 1)", new WassailEnemies().odds(0, 1), NO);
    WassailEnemies x = hating(50);
    for (int tree : outside(0, 4)) {
      is("odds(" + tree + ", 0)", x.odds(tree, 0), NO);
      is("odds(" + tree + ", 1)", x.odds(tree, 1), NO);
    }
    for (int part : outside(0, 1)) {
      is("odds(0, " + part + ")", x.odds(0, part), NO);
    }
    x.leave(0, true);
    is("all are GONE: odds(0, 0)", x.odds(0, 0), 0);
    is("all are GONE: odds(0, 1)", x.odds(0, 1), 1);
  }

  private static void mean() {
    WassailEnemies x = hating(50, 19, 20, 1);
    is("90 by 4: mean(0, 0)", x.mean(0, 0), 45);
    is("90 by 4: mean(0, 1)", x.mean(0, 1), 2);
    x.hate(3, 4, 3);
    is("92 by 4: mean(4, 0)", x.mean(4, 0), 23);
    is("92 by 4: mean(4, 1)", x.mean(4, 1), 1);
  }

  private static void meanNo() {
    is("no HATERS: mean(0, 0)", new WassailEnemies().mean(0, 0), NO);
    is("no HATERS: mean(0, 1)", new WassailEnemies().mean(0, 1), NO);
    WassailEnemies x = hating(50);
    for (int tree : outside(0, 4)) {
      is("mean(" + tree + ", 0)", x.mean(tree, 0), NO);
      is("mean(" + tree + ", 1)", x.mean(tree, 1), NO);
    }
    for (int part : outside(0, 1)) {
      is("mean(0, " + part + ")", x.mean(0, part), NO);
    }
    x.leave(0, true);
    is("all are GONE: mean(0, 0)", x.mean(0, 0), 50);
  }
}
