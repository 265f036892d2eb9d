/** Promises 8 to 10: feed, orchard, told. */
final class OrchardSentences extends Sentences {
  private OrchardSentences() {}

  static void all() {
    Doc.part("Promise 8");
    Doc.says("A sign (0 .. 127) comes behind THE TEXT's: how many it has.", OrchardSentences::feed);
    Doc.says("BAD; FULL.", OrchardSentences::feedBad);
    Doc.says("BAD; FULL.", OrchardSentences::feedFull);
    Doc.part("Promise 9");
    Doc.says("THE TEXT, which is empty then, is AN ORCHARD, and holds: its number.", OrchardSentences::orchard);
    Doc.says("FULL: there are 6 (THE TEXT stays);", OrchardSentences::orchardFull);
    Doc.says("-10 less the FAULT (the one that held holds).", OrchardSentences::orchardFault);
    Doc.part("Promise 10");
    Doc.says("What 0 YEAR, 1 NEED, 2 WEAR,", OrchardSentences::toldNumbers);
    Doc.says("3 which TREES BEAR with their LEADERS this YEAR (bits),", OrchardSentences::toldBits);
    Doc.says("4 BORE of all, together,", OrchardSentences::toldBoreOfAll);
    Doc.says("5 WORST (-5), 6 how many BEAR then (-5),", OrchardSentences::toldWorst);
    Doc.says("10 and t BORE, 20 and t the LEADER (-5) of TREE t.", OrchardSentences::toldOfTrees);
    Doc.says("NONE.", OrchardSentences::toldNone);
  }

  private static void feed() {
    WassailEnemies x = new WassailEnemies();
    is("feed(0)", x.feed(0), 1);
    is("feed(127)", x.feed(127), 2);
    is("feed(32)", x.feed(' '), 3);
    is("count(5)", x.count(5), 3);
    is("orchard()", x.orchard(), -10);
    is("at the end of what was fed", Due.feed(x, "need 4"), 6);
    is("feed(50)", x.feed('2'), 7);
    is("orchard()", x.orchard(), 0);
    is("told(1)", x.told(1), 42);
  }

  private static void feedBad() {
    WassailEnemies x = new WassailEnemies();
    for (int sign : outside(0, 127)) {
      is("feed(" + sign + ")", x.feed(sign), BAD);
    }
    is("feed(256 + 'n')", x.feed(256 + 'n'), BAD);
    is("count(5)", x.count(5), 0);
    Due.feed(x, "x".repeat(100));
    is("ahead of FULL: feed(128)", x.feed(128), BAD);
  }

  private static void feedFull() {
    WassailEnemies x = new WassailEnemies();
    is("the 99th", Due.feed(x, "h".repeat(99)), 99);
    is("the 100th", x.feed('h'), 100);
    is("the 101st", x.feed('h'), FULL);
    is("count(5)", x.count(5), 100);
    is("orchard()", x.orchard(), -11);
    is("feed(104)", x.feed('h'), 1);
  }

  private static void orchard() {
    WassailEnemies x = new WassailEnemies();
    for (int i = 0; i < 6; i++) {
      is("orchard()", Due.orchard(x, "need 1" + i), i);
      is("count(5)", x.count(5), 0);
      is("told(1)", x.told(1), 10 + i);
      is("count(1)", x.count(1), i + 1);
    }
    WassailEnemies y = under("need 1");
    is("of the empty TEXT: orchard()", y.orchard(), -10);
    is("the longer TEXT before: orchard()", Due.orchard(y, "need 1;wear 2;hot 3 p=4"), 1);
    is("nothing of that one: orchard()", Due.orchard(y, "need 1;"), -17);
    is("nothing of that one: orchard()", Due.orchard(y, "need 1;wear 2;hot 3 "), -30);
  }

  private static void orchardFull() {
    WassailEnemies x = new WassailEnemies();
    for (int i = 0; i < 6; i++) {
      Due.orchard(x, "need 1" + i);
    }
    is("a seventh: orchard()", Due.orchard(x, "need 9"), FULL);
    is("count(5)", x.count(5), 6);
    is("count(1)", x.count(1), 6);
    is("told(1)", x.told(1), 15);
    is("a fault: orchard()", Due.orchard(x, "??"), FULL);
    is("count(5)", x.count(5), 8);
    is("the feed behind it", x.feed('x'), 9);
    x.image();
    x.undo();
    is("behind undo(): orchard()", x.orchard(), FULL);
  }

  private static void orchardFault() {
    WassailEnemies x = new WassailEnemies();
    is("orchard()", Due.orchard(x, "need 5;hot"), -20);
    is("none held: told(1)", x.told(1), 20);
    is("count(1)", x.count(1), 0);
    is("count(5)", x.count(5), 0);
    Due.orchard(x, "need 11;hot 1 p=0");
    is("orchard()", Due.orchard(x, "need 5;wear 5;hot 9 p=0;hot"), -37);
    is("told(1)", x.told(1), 11);
    is("told(2)", x.told(2), 3);
    x.hater(HATER, 0, 30);
    is("of(0, 20)", x.of(0, 20), 31);
    is("count(1)", x.count(1), 1);
    is("the next one's number: orchard()", Due.orchard(x, "hot 2 p=0"), 1);
    is("nothing of the faulty one: of(0, 20)", x.of(0, 20), 32);
    is("nothing of the faulty one: told(1)", x.told(1), 20);
    is("nothing of the faulty one: told(2)", x.told(2), 3);
    is("of place 0: orchard()", Due.orchard(x, "?"), -10);
    is("of place 99: orchard()", Due.orchard(x, "hot 1 p=1" + "|p=1".repeat(22) + "|p?"), -109);
    is("of the end: orchard()", Due.orchard(x, "hot 1 p=1" + "|p=1".repeat(22) + "&t="), -110);
    is("count(5)", x.count(5), 0);
  }

  private static void toldNumbers() {
    WassailEnemies x = under("need 30;wear 4");
    is("told(0)", x.told(0), 0);
    is("told(1)", x.told(1), 30);
    is("told(2)", x.told(2), 4);
    x.pass(60);
    is("told(0)", x.told(0), 60);
  }

  private static void toldBits() {
    WassailEnemies x = hating(50, 50, 50, 50, 50);
    is("nobody leads: told(3)", x.told(3), 0);
    for (int t = 0; t < 5; t++) {
      x.lead(t, 4 - t);
      is("told(3)", x.told(3), (2 << t) - 1);
    }
    x.hate(3, 1, 19);
    is("not 1: told(3)", x.told(3), 29);
    x.leave(0, true);
    is("nor 4: told(3)", x.told(3), 13);
    WassailEnemies growler = one(GROWLER, 0, 39);
    growler.lead(0, 0);
    is("even: told(3)", growler.told(3), 1);
    growler.leave(0, true);
    growler.pass(1);
    growler.leave(0, false);
    is("odd: told(3)", growler.told(3), 0);
  }

  private static void toldBoreOfAll() {
    WassailEnemies x = hating(50, 20);
    is("told(4)", x.told(4), 0);
    x.lead(0, 0);
    x.lead(4, 1);
    x.pass(3);
    is("3 and 1: told(4)", x.told(4), 4);
    WassailEnemies most = under("need 0");
    for (int t = 0; t < 5; t++) {
      most.hater(HATER, 0, 0);
      most.lead(t, t);
    }
    passTo9999(most);
    is("told(4)", most.told(4), 5 * 9999);
  }

  private static void toldWorst() {
    WassailEnemies x = new WassailEnemies();
    is("no HATERS: told(5)", x.told(5), ABSENT);
    is("no HATERS: told(6)", x.told(6), ABSENT);
    x.hater(HATER, 0, 10);
    x.hater(HATER, 0, 50);
    is("told(5)", x.told(5), 1);
    is("told(6)", x.told(6), 0);
    x.leave(0, true);
    x.leave(1, true);
    is("all are GONE: told(5)", x.told(5), ABSENT);
    is("all are GONE: told(6)", x.told(6), ABSENT);
  }

  private static void toldOfTrees() {
    WassailEnemies x = hating(20, 26, 50);
    x.lead(1, 0);
    x.lead(2, 1);
    x.lead(4, 2);
    x.pass(4);
    bore(x, 0, 1, 3, 0, 4);
    int[] leaders = {ABSENT, 0, 1, ABSENT, 2};
    for (int t = 0; t < 5; t++) {
      is("told(2" + t + ")", x.told(20 + t), leaders[t]);
    }
  }

  private static void toldNone() {
    WassailEnemies x = hating(50);
    for (int what : new int[] {MIN, -20, -10, -1, 7, 8, 9, 15, 19, 25, 29, 30, 34, 100, MAX}) {
      is("told(" + what + ")", x.told(what), NONE);
    }
  }
}
