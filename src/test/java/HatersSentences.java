/** Promises 1 to 7: a new object, hater, of, hate, lead, leave, row. */
final class HatersSentences extends Sentences {
  private HatersSentences() {}

  static void all() {
    Doc.part("Promise 1");
    Doc.says("No HATERS, no ORCHARD.", HatersSentences::newObject);
    Doc.says("No HATERS, no ORCHARD.", HatersSentences::newObjectHasNoMore);
    Doc.part("Promise 2");
    Doc.says("A HATER with such a HATE for each TREE: its number.", HatersSentences::haterComes);
    Doc.says("NONE: kind;", HatersSentences::haterNone);
    Doc.says("BAD: v, hate;", HatersSentences::haterBad);
    Doc.says("FULL: 6.", HatersSentences::haterFull);
    Doc.part("Promise 3");
    Doc.says("Of a HATER what 0 KIND, 1 v, 2 whether it is GONE,", HatersSentences::ofItself);
    Doc.says("3 where it is LEADER (-5: nowhere),", HatersSentences::ofWhere);
    Doc.says("10 and t HATE, 20 and t FORCE, 30 and t LASTS at TREE t.", HatersSentences::ofTrees);
    Doc.says("-10001: NONE.", HatersSentences::ofNone);
    changes();
  }

  private static void changes() {
    Doc.part("Promise 4");
    Doc.says("HATE of a HATER for a TREE becomes n (0 .. 99): what it was.", HatersSentences::hateBecomes);
    Doc.says("NONE; BAD.", HatersSentences::hateNone);
    Doc.says("NONE; BAD.", HatersSentences::hateBad);
    Doc.part("Promise 5");
    Doc.says("A HATER is LEADER of a TREE, and of no other", HatersSentences::leadsNoOther);
    Doc.says("(hater -1: nobody is its LEADER):", HatersSentences::leadsNobody);
    Doc.says("who was (-5: nobody).", HatersSentences::whoLed);
    Doc.says("NONE.", HatersSentences::leadNone);
    Doc.part("Promise 6");
    Doc.says("A HATER is GONE, or not (it stays LEADER): whether it was.", HatersSentences::leave);
    Doc.says("A HATER is GONE, or not (it stays LEADER): whether it was.", HatersSentences::leaveStaysLeader);
    Doc.says("NONE.", HatersSentences::leaveNone);
    Doc.part("Promise 7");
    Doc.says("The ROW of a TOLD one becomes n (0 .. 9) for YEARS modulo 4 being part: what it was.",
        HatersSentences::rowBecomes);
    Doc.says("NONE: hater, part;", HatersSentences::rowNone);
    Doc.says("BAD;", HatersSentences::rowBad);
    Doc.says("STATE: another KIND.", HatersSentences::rowState);
  }

  private static void newObject() {
    WassailEnemies x = new WassailEnemies();
    is("HATERS: count(0)", x.count(0), 0);
    is("of(0, 0)", x.of(0, 0), NO_SUCH);
    is("ORCHARDS: count(1)", x.count(1), 0);
    is("NEED: told(1)", x.told(1), 20);
    is("WEAR: told(2)", x.told(2), 3);
    x.hater(HATER, 0, 50);
    is("an object is not another: count(0)", new WassailEnemies().count(0), 0);
  }

  private static void newObjectHasNoMore() {
    WassailEnemies x = new WassailEnemies();
    for (int what = 0; what <= 6; what++) {
      is("count(" + what + ")", x.count(what), 0);
    }
    is("told(0)", x.told(0), 0);
    is("told(3)", x.told(3), 0);
    is("told(4)", x.told(4), 0);
    is("undo()", x.undo(), STATE);
    is("looked()", x.looked(), ABSENT);
    is("ends(0)", x.ends(0), 0);
    is("ends(1)", x.ends(1), 0);
    is("trace(0)", x.trace(0), NONE);
    is("orchard()", x.orchard(), -10);
  }

  private static void haterComes() {
    WassailEnemies x = new WassailEnemies();
    for (int p = 0; p < 6; p++) {
      is("hater(" + (6 - p) + ", ..)", x.hater(6 - p, 9 - p, 99 - p), p);
      is("count(0)", x.count(0), p + 1);
    }
    for (int p = 0; p < 6; p++) {
      is("of(" + p + ", 0)", x.of(p, 0), 6 - p);
      is("of(" + p + ", 1)", x.of(p, 1), 9 - p);
      for (int t = 0; t < 5; t++) {
        is("of(" + p + ", 1" + t + ")", x.of(p, 10 + t), 99 - p);
      }
    }
  }

  private static void haterNone() {
    WassailEnemies x = new WassailEnemies();
    for (int kind : outside(0, 6)) {
      is("hater(" + kind + ", 0, 0)", x.hater(kind, 0, 0), NONE);
      is("ahead of BAD: hater(" + kind + ", -1, 100)", x.hater(kind, -1, 100), NONE);
    }
    is("count(0)", x.count(0), 0);
    is("hater(0, 0, 0)", x.hater(0, 0, 0), 0);
    is("hater(6, 0, 0)", x.hater(6, 0, 0), 1);
  }

  private static void haterBad() {
    WassailEnemies x = new WassailEnemies();
    for (int v : outside(0, 9)) {
      is("hater(0, " + v + ", 0)", x.hater(HATER, v, 0), BAD);
    }
    for (int hate : outside(0, 99)) {
      is("hater(0, 0, " + hate + ")", x.hater(HATER, 0, hate), BAD);
    }
    is("count(0)", x.count(0), 0);
    is("hater(0, 0, 99)", x.hater(HATER, 0, 99), 0);
    is("hater(0, 9, 0)", x.hater(HATER, 9, 0), 1);
  }

  private static void haterFull() {
    WassailEnemies x = hating(0, 0, 0, 0, 0);
    is("a sixth", x.hater(HATER, 0, 0), 5);
    is("a seventh", x.hater(HATER, 0, 0), FULL);
    is("count(0)", x.count(0), 6);
    is("behind NONE: hater(7, 0, 0)", x.hater(7, 0, 0), NONE);
    is("behind BAD: hater(0, 10, 0)", x.hater(HATER, 10, 0), BAD);
    is("behind BAD: hater(0, 0, 100)", x.hater(HATER, 0, 100), BAD);
  }

  private static void ofItself() {
    WassailEnemies x = one(GROWLER, 7, 12);
    x.hater(LAD, 0, 34);
    is("of(0, 0)", x.of(0, 0), GROWLER);
    is("of(1, 0)", x.of(1, 0), LAD);
    is("of(0, 1)", x.of(0, 1), 7);
    is("of(1, 1)", x.of(1, 1), 0);
    is("of(1, 2)", x.of(1, 2), 0);
    x.leave(1, true);
    is("of(1, 2)", x.of(1, 2), 1);
    is("of(0, 2)", x.of(0, 2), 0);
  }

  private static void ofWhere() {
    WassailEnemies x = hating(50, 50);
    is("of(0, 3)", x.of(0, 3), ABSENT);
    x.lead(0, 0);
    x.lead(4, 1);
    is("of(0, 3)", x.of(0, 3), 0);
    is("of(1, 3)", x.of(1, 3), 4);
    x.leave(1, true);
    is("GONE: of(1, 3)", x.of(1, 3), 4);
    x.lead(4, -1);
    is("of(1, 3)", x.of(1, 3), ABSENT);
  }

  private static void ofTrees() {
    WassailEnemies x = one(UNCLE, 5, 30);
    for (int t = 0; t < 5; t++) {
      x.hate(0, t, 15 + 3 * t);
    }
    int[] lasts = {0, 2, 1, 4, 3};
    for (int t = 0; t < 5; t++) {
      is("of(0, 1" + t + ")", x.of(0, 10 + t), 15 + 3 * t);
      is("of(0, 2" + t + ")", x.of(0, 20 + t), 15 + 3 * t + (t % 2 == 1 ? 5 : 0));
      is("of(0, 3" + t + ")", x.of(0, 30 + t), lasts[t]);
    }
  }

  private static void ofNone() {
    WassailEnemies x = hating(50, 50);
    for (int what : new int[] {MIN, -30, -20, -10, -1, 4, 9, 15, 19, 25, 29, 35, 39, 40, 44, 100, MAX}) {
      is("of(0, " + what + ")", x.of(0, what), NO_SUCH);
    }
    for (int hater : outside(0, 1)) {
      for (int what : new int[] {0, 1, 2, 3, 10, 20, 30, 4}) {
        is("of(" + hater + ", " + what + ")", x.of(hater, what), NO_SUCH);
      }
    }
  }

  private static void hateBecomes() {
    WassailEnemies x = hating(10, 20);
    is("hate(1, 4, 99)", x.hate(1, 4, 99), 20);
    is("of(1, 14)", x.of(1, 14), 99);
    is("hate(1, 4, 0)", x.hate(1, 4, 0), 99);
    is("of(1, 14)", x.of(1, 14), 0);
    is("hate(1, 0, 1)", x.hate(1, 0, 1), 20);
    is("another TREE's: of(1, 13)", x.of(1, 13), 20);
    is("another's: of(0, 14)", x.of(0, 14), 10);
    x.lead(0, 0);
    x.hate(0, 0, 50);
    x.pass(1);
    is("worn since: hate(0, 0, 50)", x.hate(0, 0, 50), 47);
  }

  private static void hateNone() {
    WassailEnemies x = hating(10, 20);
    for (int hater : outside(0, 1)) {
      is("hate(" + hater + ", 0, 0)", x.hate(hater, 0, 0), NONE);
      is("ahead of BAD: hate(" + hater + ", 0, 100)", x.hate(hater, 0, 100), NONE);
    }
    for (int tree : outside(0, 4)) {
      is("hate(0, " + tree + ", 0)", x.hate(0, tree, 0), NONE);
      is("ahead of BAD: hate(0, " + tree + ", -1)", x.hate(0, tree, -1), NONE);
    }
  }

  private static void hateBad() {
    WassailEnemies x = hating(10);
    for (int n : outside(0, 99)) {
      is("hate(0, 0, " + n + ")", x.hate(0, 0, n), BAD);
    }
    is("of(0, 10)", x.of(0, 10), 10);
  }

  private static void leadsNoOther() {
    WassailEnemies x = hating(50, 50);
    x.lead(3, 0);
    is("told(23)", x.told(23), 0);
    x.lead(1, 0);
    is("told(21)", x.told(21), 0);
    is("told(23)", x.told(23), ABSENT);
    x.lead(4, 1);
    x.lead(1, 1);
    is("told(21)", x.told(21), 1);
    is("told(24)", x.told(24), ABSENT);
    is("of(0, 3)", x.of(0, 3), ABSENT);
  }

  private static void leadsNobody() {
    WassailEnemies x = hating(50, 50);
    x.lead(0, 0);
    x.lead(4, 1);
    is("lead(4, -1)", x.lead(4, -1), 1);
    is("told(24)", x.told(24), ABSENT);
    is("of(1, 3)", x.of(1, 3), ABSENT);
    is("lead(2, -1)", x.lead(2, -1), ABSENT);
    is("others stay: told(20)", x.told(20), 0);
    is("no HATERS: lead(0, -1)", new WassailEnemies().lead(0, -1), ABSENT);
  }

  private static void whoLed() {
    WassailEnemies x = hating(50, 50);
    is("lead(3, 0)", x.lead(3, 0), ABSENT);
    is("lead(3, 1)", x.lead(3, 1), 0);
    is("the same again: lead(3, 1)", x.lead(3, 1), 1);
    is("told(23)", x.told(23), 1);
    is("from another TREE: lead(0, 1)", x.lead(0, 1), ABSENT);
    is("left: lead(3, 0)", x.lead(3, 0), ABSENT);
  }

  private static void leadNone() {
    WassailEnemies x = hating(50, 50);
    x.lead(0, 1);
    for (int tree : outside(0, 4)) {
      is("lead(" + tree + ", 1)", x.lead(tree, 1), NONE);
      is("lead(" + tree + ", -1)", x.lead(tree, -1), NONE);
    }
    for (int hater : outside(-1, 1)) {
      is("lead(0, " + hater + ")", x.lead(0, hater), NONE);
    }
    is("as nobody is answered: lead(0, -5)", x.lead(0, ABSENT), NONE);
    is("told(20)", x.told(20), 1);
    is("of(1, 3)", x.of(1, 3), 0);
  }

  private static void leave() {
    WassailEnemies x = hating(50, 50);
    is("leave(1, false)", x.leave(1, false), 0);
    is("leave(1, true)", x.leave(1, true), 0);
    is("leave(1, true)", x.leave(1, true), 1);
    is("of(1, 2)", x.of(1, 2), 1);
    is("of(0, 2)", x.of(0, 2), 0);
    is("leave(1, false)", x.leave(1, false), 1);
    is("of(1, 2)", x.of(1, 2), 0);
  }

  private static void leaveStaysLeader() {
    WassailEnemies x = hating(50, 50);
    x.lead(2, 1);
    x.leave(1, true);
    is("told(22)", x.told(22), 1);
    is("told(3)", x.told(3), 0);
    x.pass(1);
    is("does not bear: told(12)", x.told(12), 0);
    is("does not wear: of(1, 12)", x.of(1, 12), 50);
    x.leave(1, false);
    is("told(3)", x.told(3), 4);
    x.leave(0, true);
    is("can come to lead: lead(0, 0)", x.lead(0, 0), ABSENT);
    is("told(20)", x.told(20), 0);
  }

  private static void leaveNone() {
    WassailEnemies x = hating(50, 50);
    for (int hater : outside(0, 1)) {
      is("leave(" + hater + ", true)", x.leave(hater, true), NONE);
      is("leave(" + hater + ", false)", x.leave(hater, false), NONE);
    }
  }

  private static void rowBecomes() {
    WassailEnemies x = one(TOLD, 0, 0);
    for (int part = 0; part < 4; part++) {
      is("row(0, " + part + ", 9)", x.row(0, part, 9 - part), 0);
    }
    for (int part = 0; part < 4; part++) {
      is("in YEAR " + part + ": of(0, 20)", x.of(0, 20), 50 + 9 - part);
      x.pass(1);
    }
    is("row(0, 3, 0)", x.row(0, 3, 0), 6);
    is("row(0, 3, 9)", x.row(0, 3, 9), 0);
    is("row(0, 0, 0)", x.row(0, 0, 0), 9);
    x.pass(3);
    is("in YEAR 7: of(0, 20)", x.of(0, 20), 59);
  }

  private static void rowNone() {
    WassailEnemies x = one(TOLD, 0, 0);
    x.hater(LOVER, 0, 0);
    for (int hater : outside(0, 1)) {
      is("row(" + hater + ", 0, 0)", x.row(hater, 0, 0), NONE);
      is("ahead of BAD: row(" + hater + ", 0, 10)", x.row(hater, 0, 10), NONE);
    }
    for (int part : outside(0, 3)) {
      is("row(0, " + part + ", 0)", x.row(0, part, 0), NONE);
      is("ahead of BAD: row(0, " + part + ", -1)", x.row(0, part, -1), NONE);
      is("ahead of STATE: row(1, " + part + ", 0)", x.row(1, part, 0), NONE);
    }
  }

  private static void rowBad() {
    WassailEnemies x = one(TOLD, 0, 0);
    x.hater(LOVER, 0, 0);
    x.row(0, 0, 4);
    for (int n : outside(0, 9)) {
      is("row(0, 0, " + n + ")", x.row(0, 0, n), BAD);
      is("ahead of STATE: row(1, 0, " + n + ")", x.row(1, 0, n), BAD);
    }
    is("as it was: row(0, 0, 4)", x.row(0, 0, 4), 4);
  }

  private static void rowState() {
    for (int kind = HATER; kind < TOLD; kind++) {
      WassailEnemies x = one(kind, 0, 0);
      is("KIND " + kind + ": row(0, 0, 1)", x.row(0, 0, 1), STATE);
      is("KIND " + kind + ": row(0, 3, 9)", x.row(0, 3, 9), STATE);
    }
    is("row(0, 0, 1)", one(TOLD, 0, 0).row(0, 0, 1), 0);
  }
}
