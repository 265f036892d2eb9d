/** Promises 24 to 26: judge, image, undo. */
public final class JudgeTest {
  private static final int NONE = -1, STATE = -3, ABSENT = -5, CAST = -12;
  private static final int MIN = Integer.MIN_VALUE, MAX = Integer.MAX_VALUE;

  public static void main(String[] args) {
    judge();
    judgeShort();
    judgeWrong();
    image();
    undoOfHaters();
    undoOfLists();
    undoLeaves();
    Due.end("JudgeTest");
  }

  /** An object whose TREES 0 .. 4 bore 2, 0, 3, 0, 1. */
  private static WassailEnemies bore20301() {
    WassailEnemies x = new WassailEnemies();
    x.hater(0, 0, 23);
    x.hater(0, 0, 26);
    x.hater(0, 0, 20);
    x.lead(0, 0);
    x.lead(2, 1);
    x.lead(4, 2);
    x.pass(5);
    return x;
  }

  private static void write(WassailEnemies x, int tape, int from, long... items) {
    for (int i = 0; i < items.length; i++) {
      Due.is("item(" + tape + ", " + (from + i) + ", ..)", x.item(tape, from + i, items[i]), 1);
    }
  }

  private static void judge() {
    WassailEnemies x = bore20301();
    x.tape(1, 3, 8);
    write(x, 1, 2, 2, 0, 3, 0, 1);
    Due.is("judge(1, 2)", x.judge(1, 2), ABSENT);
    Due.is("0 is not 2: judge(1, 0)", x.judge(1, 0), 0);
    write(x, 1, 6, 2);
    Due.is("2 is not 1: judge(1, 2)", x.judge(1, 2), 4);
    write(x, 1, 4, -3);
    Due.is("the first: judge(1, 2)", x.judge(1, 2), 2);
    write(x, 1, 3, 1L << 32);
    Due.is("longs: judge(1, 2)", x.judge(1, 2), 1);
    write(x, 1, 2, (1L << 32) + 2);
    Due.is("longs: judge(1, 2)", x.judge(1, 2), 0);
    Due.is("asking changes nothing: told(10)", x.told(10), 2);
  }

  private static void judgeShort() {
    WassailEnemies x = bore20301();
    Due.is("holds nothing: judge(0, 0)", x.judge(0, 0), 100);
    Due.is("holds nothing: judge(0, -1)", x.judge(0, -1), 100);
    x.tape(0, 3, 0);
    Due.is("no items: judge(0, 0)", x.judge(0, 0), 100);
    x.tape(0, 3, 4);
    write(x, 0, 0, 2, 0, 3, 0);
    Due.is("four, then the end: judge(0, 0)", x.judge(0, 0), 104);
    Due.is("0 is not 2 ahead of the end: judge(0, 1)", x.judge(0, 1), 0);
    write(x, 0, 0, 0, 0, 2, 0);
    Due.is("two, then the end: judge(0, 2)", x.judge(0, 2), 102);
    write(x, 0, 3, 2);
    Due.is("one, then the end: judge(0, 3)", x.judge(0, 3), 101);
    Due.is("judge(0, 2)", x.judge(0, 2), 1);
    for (int i : new int[] {4, 5, 60, -1, -5, MIN, MAX, MAX - 3}) {
      Due.is("judge(0, " + i + ")", x.judge(0, i), 100);
    }
    x.tape(2, 3, 60);
    write(x, 2, 59, 2);
    Due.is("judge(2, 59)", x.judge(2, 59), 101);
    x.tape(2, -1, 0);
    Due.is("holds nothing again: judge(2, 59)", x.judge(2, 59), 100);
  }

  private static void judgeWrong() {
    WassailEnemies x = new WassailEnemies();
    for (int tape : new int[] {-1, 6, MIN, MAX}) {
      Due.is("judge(" + tape + ", 0)", x.judge(tape, 0), NONE);
    }
    for (int sort = 0; sort < 5; sort++) {
      x.tape(5, sort, 5);
      Due.is("sort " + sort + ": judge(5, 0)", x.judge(5, 0), sort == 3 ? ABSENT : CAST);
      Due.is("sort " + sort + ": judge(5, -1)", x.judge(5, -1), sort == 3 ? 100 : CAST);
      Due.is("sort " + sort + ": judge(5, 5)", x.judge(5, 5), sort == 3 ? 100 : CAST);
    }
  }

  private static void image() {
    WassailEnemies x = new WassailEnemies();
    Due.is("undo()", x.undo(), STATE);
    Due.is("image()", x.image(), 0);
    x.hater(0, 0, 50);
    x.hater(0, 0, 50);
    Due.is("undo()", x.undo(), 0);
    Due.is("count(0)", x.count(0), 0);
    Due.is("hater(4, 1, 1)", x.hater(4, 1, 1), 0);
    Due.is("image()", x.image(), 1);
    x.hater(0, 0, 50);
    Due.is("undo()", x.undo(), 1);
    x.hater(0, 0, 50);
    Due.is("the same image again: undo()", x.undo(), 1);
    Due.is("of(0, 0)", x.of(0, 0), 4);
  }

  private static void undoOfHaters() {
    WassailEnemies x = bore20301();
    x.hater(6, 3, 40);
    x.row(3, 1, 7);
    x.leave(0, true);
    Due.is("image()", x.image(), 4);
    x.hate(3, 4, 41);
    x.row(3, 1, 8);
    x.leave(0, false);
    x.leave(1, true);
    x.lead(0, 3);
    x.lead(2, -1);
    x.hater(2, 9, 99);
    x.hate(4, 2, 1);
    x.leave(4, true);
    x.pass(4);
    Due.is("told(0)", x.told(0), 9);
    Due.is("undo()", x.undo(), 4);
    Due.is("told(0)", x.told(0), 5);
    Due.is("of(3, 14)", x.of(3, 14), 40);
    Due.is("row(3, 1, 7)", x.row(3, 1, 7), 7);
    Due.is("of(0, 2)", x.of(0, 2), 1);
    Due.is("of(1, 2)", x.of(1, 2), 0);
    Due.is("told(20)", x.told(20), 0);
    Due.is("told(22)", x.told(22), 1);
    Due.is("told(10)", x.told(10), 2);
    Due.is("told(12)", x.told(12), 3);
    Due.is("of(4, 0)", x.of(4, 0), -10001);
    Due.is("a new one is new all over: hater(6, 0, 5)", x.hater(6, 0, 5), 4);
    Due.is("of(4, 0)", x.of(4, 0), 6);
    Due.is("of(4, 1)", x.of(4, 1), 0);
    Due.is("of(4, 2)", x.of(4, 2), 0);
    Due.is("of(4, 3)", x.of(4, 3), ABSENT);
    Due.is("of(4, 12)", x.of(4, 12), 5);
    Due.is("row(4, 1, 0)", x.row(4, 1, 0), 0);
    x.row(4, 2, 6);
    Due.is("undo()", x.undo(), 4);
    x.hater(6, 0, 5);
    Due.is("row(4, 2, 0)", x.row(4, 2, 0), 0);
    Due.is("the image is not what goes on: image()", x.image(), 5);
    x.hate(3, 0, 1);
    x.pass(1);
    Due.is("undo()", x.undo(), 5);
    Due.is("of(3, 10)", x.of(3, 10), 40);
    Due.is("told(0)", x.told(0), 5);
  }

  private static void undoOfLists() {
    WassailEnemies x = new WassailEnemies();
    x.hater(1, 0, 19);
    x.see(0, 1, 0, true);
    x.plan(0, 0);
    x.book(0, 0);
    x.book(1, 1);
    Due.is("orchard()", Due.orchard(x, "need 30"), 0);
    x.image();
    x.see(0, 1, 0, false);
    x.plan(1, 0);
    x.book(-1, 0);
    Due.is("orchard()", Due.orchard(x, "need 40"), 1);
    Due.is("undo()", x.undo(), 1);
    Due.is("count(2)", x.count(2), 1);
    Due.is("count(3)", x.count(3), 1);
    Due.is("count(4)", x.count(4), 2);
    Due.is("looked()", x.looked(), 1);
    Due.is("19 and v is never 30: can(0, 0)", x.can(0, 0), 0);
    Due.is("that which held holds: told(1)", x.told(1), 30);
    x.see(-1, 0, 0, true);
    x.see(0, 1, 0, false);
    x.plan(-1, 0);
    x.plan(1, 0);
    x.book(-1, 0);
    x.book(2, 9);
    Due.is("undo()", x.undo(), 1);
    Due.is("rows are as they were: can(0, 0)", x.can(0, 0), 0);
    Due.is("rows are as they were: looked()", x.looked(), 1);
    x.lead(0, 0);
    x.hate(0, 0, 90);
    Due.is("rows are as they were: ends(0)", x.ends(0), 1);
    WassailEnemies y = new WassailEnemies();
    y.image();
    Due.orchard(y, "need 1");
    y.undo();
    Due.is("none held: told(1)", y.told(1), 20);
  }

  /** What is not of THE IMAGE stays: ORCHARDS that there are, THE TEXT, TAPES, THE TRACE. */
  private static void undoLeaves() {
    WassailEnemies x = new WassailEnemies();
    x.hater(0, 0, 50);
    x.image();
    Due.is("orchard()", Due.orchard(x, "wear 9"), 0);
    Due.feed(x, "need");
    x.tape(4, 1, 2);
    x.item(4, 1, 77);
    x.act(0, 1, 5);
    Due.is("undo()", x.undo(), 1);
    Due.is("count(1)", x.count(1), 1);
    Due.is("count(5)", x.count(5), 4);
    Due.is("read(4, 1)", x.read(4, 1), 77);
    Due.is("count(6)", x.count(6), 2);
    Due.is("trace(0)", x.trace(0), 11);
    Due.is("told(2)", x.told(2), 3);
    Due.is("orchard()", Due.orchard(x, " 44"), 1);
    Due.is("told(1)", x.told(1), 44);
  }
}
