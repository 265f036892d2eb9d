/** Promises 24 to 26: judge, image, undo. */
final class JudgeSentences extends Sentences {
  private JudgeSentences() {}

  static void all() {
    Doc.part("Promise 24");
    Doc.says("JUDGED from place i of a TAPE on.", JudgeSentences::judge);
    Doc.says("NONE: tape;", JudgeSentences::judgeNone);
    Doc.says("CAST: it is no row of longs.", JudgeSentences::judgeCast);
    Doc.part("Promise 25");
    Doc.says("THE IMAGE is taken: how many HATERS there are.", JudgeSentences::image);
    Doc.part("Promise 26");
    Doc.says("All is as THE IMAGE: how many HATERS.", JudgeSentences::undo);
    Doc.says("All is as THE IMAGE: how many HATERS.", JudgeSentences::undoOfHaters);
    Doc.says("All is as THE IMAGE: how many HATERS.", JudgeSentences::undoOfRows);
    Doc.says("All is as THE IMAGE: how many HATERS.", JudgeSentences::undoLeaves);
    Doc.says("STATE: there is none.", JudgeSentences::undoState);
  }

  private static void judge() {
    WassailEnemies x = hating(50, 20);
    x.lead(1, 0);
    x.lead(4, 1);
    x.pass(2);
    x.tape(5, LONGS, 60);
    write(x, 5, 10, 0, 2, 0, 0, 1);
    is("judge(5, 10)", x.judge(5, 10), ABSENT);
    is("2 is not 0: judge(5, 11)", x.judge(5, 11), 0);
    is("0 is not 2: judge(5, 12)", x.judge(5, 12), 1);
    write(x, 5, 13, 3);
    is("3 is not 0: judge(5, 10)", x.judge(5, 10), 3);
    write(x, 5, 13, 0, 2);
    is("2 is not 1: judge(5, 10)", x.judge(5, 10), 4);
    write(x, 5, 55, 0, 2, 0, 0, 1);
    is("judge(5, 55)", x.judge(5, 55), ABSENT);
    write(x, 5, 56, 0, 2, 0, 0);
    is("the row ends: judge(5, 56)", x.judge(5, 56), 104);
  }

  private static void judgeNone() {
    WassailEnemies x = new WassailEnemies();
    for (int tape : outside(0, 5)) {
      is("judge(" + tape + ", 0)", x.judge(tape, 0), NONE);
      is("judge(" + tape + ", -1)", x.judge(tape, -1), NONE);
    }
  }

  private static void judgeCast() {
    WassailEnemies x = new WassailEnemies();
    for (int sort = BYTES; sort <= BOOLEANS; sort++) {
      x.tape(0, sort, 5);
      is("sort " + sort + ": judge(0, 0)", x.judge(0, 0), sort == LONGS ? ABSENT : CAST);
      is("sort " + sort + ": judge(0, -1)", x.judge(0, -1), sort == LONGS ? 100 : CAST);
      is("sort " + sort + ": judge(0, 5)", x.judge(0, 5), sort == LONGS ? 100 : CAST);
      x.tape(0, sort, 0);
      is("sort " + sort + ", no items: judge(0, 0)", x.judge(0, 0), sort == LONGS ? 100 : CAST);
    }
    x.tape(0, -1, 0);
    is("holds nothing: judge(0, 0)", x.judge(0, 0), 100);
  }

  private static void image() {
    WassailEnemies x = new WassailEnemies();
    is("image()", x.image(), 0);
    for (int i = 1; i <= 6; i++) {
      x.hater(HATER, 0, i);
      is("image()", x.image(), i);
    }
    x.hate(0, 0, 50);
    x.image();
    x.hate(0, 0, 60);
    is("undo()", x.undo(), 6);
    is("the newest: of(0, 10)", x.of(0, 10), 50);
    is("an image() changes nothing", x.image(), 6);
    is("of(0, 10)", x.of(0, 10), 50);
  }

  private static void undo() {
    WassailEnemies x = new WassailEnemies();
    x.image();
    x.hater(HATER, 0, 50);
    x.pass(3);
    is("undo()", x.undo(), 0);
    is("count(0)", x.count(0), 0);
    is("told(0)", x.told(0), 0);
    x.hater(GROWLER, 1, 1);
    x.hater(HATER, 0, 50);
    x.image();
    for (int i = 0; i < 3; i++) {
      x.hate(0, 2, 99);
      x.hater(HATER, 0, 50);
      is("THE IMAGE stays: undo()", x.undo(), 2);
      is("of(0, 0)", x.of(0, 0), GROWLER);
      is("of(0, 12)", x.of(0, 12), 1);
    }
  }

  /** A place that was another's is a new HATER's all over. */
  private static void undoOfHaters() {
    WassailEnemies x = hating(50);
    x.image();
    x.hater(TOLD, 9, 99);
    x.row(1, 1, 7);
    x.leave(1, true);
    x.hate(1, 2, 1);
    x.lead(3, 1);
    x.lead(2, 0);
    is("undo()", x.undo(), 1);
    is("of(1, 0)", x.of(1, 0), NO_SUCH);
    is("told(23)", x.told(23), ABSENT);
    is("of(0, 3)", x.of(0, 3), ABSENT);
    is("hater(6, 0, 5)", x.hater(TOLD, 0, 5), 1);
    is("of(1, 1)", x.of(1, 1), 0);
    is("of(1, 2)", x.of(1, 2), 0);
    is("of(1, 3)", x.of(1, 3), ABSENT);
    is("of(1, 12)", x.of(1, 12), 5);
    is("row(1, 1, 3)", x.row(1, 1, 3), 0);
    x.undo();
    x.hater(TOLD, 0, 5);
    is("row(1, 1, 3)", x.row(1, 1, 3), 0);
  }

  private static void undoOfRows() {
    WassailEnemies x = one(UNCLE, 0, 19);
    x.see(0, 1, 0, true);
    x.plan(0, 0);
    x.book(0, 0);
    x.book(1, 1);
    x.image();
    for (int i = 0; i < 2; i++) {
      x.see(-1, 0, 0, true);
      x.see(0, 1, 0, false);
      x.see(0, 1, 0, false);
      x.plan(-1, 0);
      x.plan(1, 0);
      x.book(-1, 0);
      x.book(2, 9);
      is("undo()", x.undo(), 1);
      is("count(2)", x.count(2), 1);
      is("count(3)", x.count(3), 1);
      is("count(4)", x.count(4), 2);
      is("19 and v, of 20: can(0, 1)", x.can(0, 1), 1);
      is("looked()", x.looked(), 1);
      x.lead(0, 0);
      x.hate(0, 0, 90);
      is("ends(0)", x.ends(0), 1);
    }
  }

  /** What is not of THE IMAGE stays: ORCHARDS that there are, THE TEXT, TAPES, THE TRACE. */
  private static void undoLeaves() {
    WassailEnemies x = hating(50);
    x.image();
    is("orchard()", Due.orchard(x, "wear 9"), 0);
    Due.feed(x, "need");
    x.tape(4, LONGS, 2);
    x.item(4, 1, 77);
    x.act(0, 1, 5);
    is("undo()", x.undo(), 1);
    is("none holds: told(2)", x.told(2), 3);
    is("count(1)", x.count(1), 1);
    is("count(5)", x.count(5), 4);
    is("read(4, 1)", x.read(4, 1), 77);
    is("count(6)", x.count(6), 2);
    is("trace(0)", x.trace(0), 11);
    is("orchard()", Due.orchard(x, " 44"), 1);
    is("told(1)", x.told(1), 44);
  }

  private static void undoState() {
    WassailEnemies x = hating(50);
    is("undo()", x.undo(), STATE);
    is("count(0)", x.count(0), 1);
    x.image();
    is("undo()", x.undo(), 1);
  }
}
