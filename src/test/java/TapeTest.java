/** Promises 30 to 34: count, tape, item, read, shift. */
public final class TapeTest {
  private static final int NONE = -1, BAD = -2, NOTHING = -11, CAST = -12, PLACE = -13, SIZE = -14;
  private static final int MIN = Integer.MIN_VALUE, MAX = Integer.MAX_VALUE;
  private static final long NO = Long.MIN_VALUE;

  public static void main(String[] args) {
    count();
    tape();
    tapeAnew();
    item();
    itemBits();
    read();
    shift();
    shiftWithin();
    shiftWrong();
    shiftBounds();
    Due.end("TapeTest");
  }

  private static void count() {
    WassailEnemies x = new WassailEnemies();
    x.hater(6, 0, 0);
    x.hater(0, 0, 0);
    Due.orchard(x, "wear 1");
    x.see(0, 0, 0, true);
    x.see(0, 0, 0, true);
    x.see(0, 0, 0, true);
    for (int i = 0; i < 4; i++) {
      x.plan(0, 0);
    }
    for (int i = 0; i < 5; i++) {
      x.book(0, 0);
    }
    Due.feed(x, "12345678");
    x.act(0, 2, 0);
    int[] due = {2, 1, 3, 4, 5, 8, 12};
    for (int what = 0; what < due.length; what++) {
      Due.is("count(" + what + ")", x.count(what), due[what]);
    }
    for (int what : new int[] {-1, 7, MIN, MAX}) {
      Due.is("count(" + what + ")", x.count(what), BAD);
    }
  }

  private static void tape() {
    WassailEnemies x = new WassailEnemies();
    for (int bad : new int[] {-1, 6, MIN, MAX}) {
      Due.is("tape(" + bad + ", 5, -1)", x.tape(bad, 5, -1), NONE);
      Due.is("tape(" + bad + ", -1, 0)", x.tape(bad, -1, 0), NONE);
    }
    for (int sort : new int[] {-2, 5, MIN, MAX}) {
      Due.is("tape(0, " + sort + ", 1)", x.tape(0, sort, 1), BAD);
      Due.is("tape(0, " + sort + ", -1)", x.tape(0, sort, -1), BAD);
    }
    for (int n : new int[] {61, MAX}) {
      Due.is("tape(0, 3, " + n + ")", x.tape(0, 3, n), BAD);
      Due.is("tape(0, -1, " + n + ")", x.tape(0, -1, n), 1);
    }
    for (int n : new int[] {-1, MIN}) {
      Due.is("tape(0, 3, " + n + ")", x.tape(0, 3, n), SIZE);
      Due.is("tape(0, -1, " + n + ")", x.tape(0, -1, n), 1);
    }
    Due.is("none of these came to hold: item(0, 0, 1)", x.item(0, 0, 1), NOTHING);
    for (int sort = 0; sort < 5; sort++) {
      Due.is("tape(5, " + sort + ", 60)", x.tape(5, sort, 60), 1);
      Due.is("read(5, 59)", x.read(5, 59), 0);
      Due.is("read(5, 60)", x.read(5, 60), NO);
      Due.is("tape(5, " + sort + ", 0)", x.tape(5, sort, 0), 1);
      Due.is("read(5, 0)", x.read(5, 0), NO);
      Due.is("item(5, 0, 1)", x.item(5, 0, 1), PLACE);
    }
  }

  private static void tapeAnew() {
    WassailEnemies x = new WassailEnemies();
    x.tape(2, 3, 3);
    x.item(2, 0, 7);
    x.item(2, 2, 8);
    x.tape(2, 3, 3);
    Due.is("all 0: read(2, 0)", x.read(2, 0), 0);
    Due.is("all 0: read(2, 2)", x.read(2, 2), 0);
    x.item(2, 2, 9);
    Due.is("refused: tape(2, 0, -1)", x.tape(2, 0, -1), SIZE);
    Due.is("refused: tape(2, 0, 61)", x.tape(2, 0, 61), BAD);
    Due.is("as it was: read(2, 2)", x.read(2, 2), 9);
    x.tape(2, 3, 2);
    Due.is("read(2, 2)", x.read(2, 2), NO);
    x.tape(2, 3, 3);
    Due.is("all 0: read(2, 2)", x.read(2, 2), 0);
    x.tape(2, -1, 3);
    Due.is("holds nothing: read(2, 0)", x.read(2, 0), NO);
    Due.is("holds nothing: item(2, 0, 1)", x.item(2, 0, 1), NOTHING);
    Due.is("another holds nothing: read(3, 0)", x.read(3, 0), NO);
  }

  private static void item() {
    WassailEnemies x = new WassailEnemies();
    for (int bad : new int[] {-1, 6, MIN, MAX}) {
      Due.is("item(" + bad + ", 0, 0)", x.item(bad, 0, 0), NONE);
    }
    Due.is("item(0, -1, 0)", x.item(0, -1, 0), NOTHING);
    x.tape(0, 2, 4);
    for (int bad : new int[] {-1, 4, 60, MIN, MAX}) {
      Due.is("item(0, " + bad + ", 1)", x.item(0, bad, 1), PLACE);
    }
    Due.is("item(0, 3, 5)", x.item(0, 3, 5), 1);
    Due.is("item(0, 0, 6)", x.item(0, 0, 6), 1);
    Due.is("read(0, 3)", x.read(0, 3), 5);
    Due.is("read(0, 0)", x.read(0, 0), 6);
    Due.is("read(0, 1)", x.read(0, 1), 0);
    Due.is("item(0, 3, -5)", x.item(0, 3, -5), 1);
    Due.is("read(0, 3)", x.read(0, 3), -5);
  }

  private static void keeps(int sort, long v, long want) {
    WassailEnemies x = new WassailEnemies();
    x.tape(1, sort, 1);
    Due.is("sort " + sort + ": item(1, 0, " + v + ")", x.item(1, 0, v), 1);
    Due.is("sort " + sort + ": read(1, 0) of " + v, x.read(1, 0), want);
  }

  private static void itemBits() {
    keeps(0, 127, 127);
    keeps(0, 128, -128);
    keeps(0, -129, 127);
    keeps(0, 256, 0);
    keeps(1, 32767, 32767);
    keeps(1, 32768, -32768);
    keeps(1, 65536, 0);
    keeps(1, Long.MIN_VALUE, 0);
    keeps(2, 2147483647L, 2147483647L);
    keeps(2, 2147483648L, -2147483648L);
    keeps(2, 4294967295L, -1);
    keeps(3, 4294967296L, 4294967296L);
    keeps(3, Long.MAX_VALUE, Long.MAX_VALUE);
    keeps(3, Long.MIN_VALUE, Long.MIN_VALUE);
    keeps(4, 0, 0);
    keeps(4, 1, 1);
    keeps(4, 2, 1);
    keeps(4, -1, 1);
    keeps(4, 256, 1);
    keeps(4, 4294967296L, 1);
  }

  private static void read() {
    WassailEnemies x = new WassailEnemies();
    for (int bad : new int[] {-1, 6, MIN, MAX}) {
      Due.is("read(" + bad + ", 0)", x.read(bad, 0), NO);
    }
    Due.is("holds nothing: read(0, 0)", x.read(0, 0), NO);
    x.tape(0, 0, 2);
    for (int bad : new int[] {-1, 2, 60, MIN, MAX}) {
      Due.is("read(0, " + bad + ")", x.read(0, bad), NO);
    }
    Due.is("read(0, 1)", x.read(0, 1), 0);
  }

  private static void row(WassailEnemies x, int tape, long... want) {
    for (int i = 0; i < want.length; i++) {
      Due.is("read(" + tape + ", " + i + ")", x.read(tape, i), want[i]);
    }
    Due.is("read(" + tape + ", " + want.length + ")", x.read(tape, want.length), NO);
  }

  /** Two TAPES of one sort: 1 2 3 4 5, and three times 0. */
  private static WassailEnemies two(int sort) {
    WassailEnemies x = new WassailEnemies();
    x.tape(0, sort, 5);
    x.tape(1, sort, 3);
    for (int i = 0; i < 5; i++) {
      x.item(0, i, i + 1);
    }
    return x;
  }

  private static void shift() {
    for (int sort = 0; sort < 4; sort++) {
      WassailEnemies x = two(sort);
      Due.is("shift(0, 1, 1, 0, 2)", x.shift(0, 1, 1, 0, 2), 2);
      row(x, 1, 2, 3, 0);
      row(x, 0, 1, 2, 3, 4, 5);
      Due.is("shift(1, 0, 0, 3, 2)", x.shift(1, 0, 0, 3, 2), 2);
      row(x, 0, 1, 2, 3, 2, 3);
      Due.is("shift(0, 2, 1, 0, 3)", x.shift(0, 2, 1, 0, 3), 3);
      row(x, 1, 3, 2, 3);
      Due.is("shift(0, 0, 1, 0, 0)", x.shift(0, 0, 1, 0, 0), 0);
      row(x, 1, 3, 2, 3);
    }
    WassailEnemies flags = two(4);
    Due.is("shift(0, 3, 1, 1, 2)", flags.shift(0, 3, 1, 1, 2), 2);
    row(flags, 1, 0, 1, 1);
  }

  /** As they all were before, whichever way the places overlap. */
  private static void shiftWithin() {
    WassailEnemies x = two(2);
    Due.is("shift(0, 0, 0, 1, 4)", x.shift(0, 0, 0, 1, 4), 4);
    row(x, 0, 1, 1, 2, 3, 4);
    Due.is("shift(0, 2, 0, 0, 3)", x.shift(0, 2, 0, 0, 3), 3);
    row(x, 0, 2, 3, 4, 3, 4);
    Due.is("shift(0, 0, 0, 0, 5)", x.shift(0, 0, 0, 0, 5), 5);
    row(x, 0, 2, 3, 4, 3, 4);
  }

  private static void shiftWrong() {
    WassailEnemies x = two(1);
    x.tape(2, 2, 5);
    for (int bad : new int[] {-1, 6, MIN, MAX}) {
      Due.is("shift(" + bad + ", 0, 3, -1, 0)", x.shift(bad, 0, 3, -1, 0), NONE);
      Due.is("shift(3, 0, " + bad + ", 0, -1)", x.shift(3, 0, bad, 0, -1), NONE);
    }
    Due.is("shift(3, 0, 0, 0, -1)", x.shift(3, 0, 0, 0, -1), NOTHING);
    Due.is("shift(0, 0, 3, 0, -1)", x.shift(0, 0, 3, 0, -1), NOTHING);
    Due.is("shift(3, 0, 4, 0, 0)", x.shift(3, 0, 4, 0, 0), NOTHING);
    Due.is("shift(0, 0, 2, 0, -1)", x.shift(0, 0, 2, 0, -1), CAST);
    Due.is("shift(2, 0, 0, 0, 1)", x.shift(2, 0, 0, 0, 1), CAST);
    row(x, 0, 1, 2, 3, 4, 5);
  }

  private static void shiftBounds() {
    WassailEnemies x = two(1);
    for (int bad : new int[] {-1, MIN, MAX, 4}) {
      Due.is("shift(0, 0, 1, 0, " + bad + ")", x.shift(0, 0, 1, 0, bad), PLACE);
      Due.is("shift(1, 0, 0, 0, " + bad + ")", x.shift(1, 0, 0, 0, bad), PLACE);
    }
    for (int bad : new int[] {-1, MIN, MAX, MAX - 1, 6}) {
      Due.is("shift(0, " + bad + ", 1, 0, 0)", x.shift(0, bad, 1, 0, 0), PLACE);
      Due.is("shift(0, " + bad + ", 1, 0, 2)", x.shift(0, bad, 1, 0, 2), PLACE);
      Due.is("shift(1, 0, 0, " + bad + ", 0)", x.shift(1, 0, 0, bad, 0), PLACE);
      Due.is("shift(1, 0, 0, " + bad + ", 2)", x.shift(1, 0, 0, bad, 2), PLACE);
    }
    Due.is("shift(0, 4, 1, 0, 2)", x.shift(0, 4, 1, 0, 2), PLACE);
    Due.is("shift(0, 0, 1, 2, 2)", x.shift(0, 0, 1, 2, 2), PLACE);
    Due.is("at the end: shift(0, 5, 1, 3, 0)", x.shift(0, 5, 1, 3, 0), 0);
    Due.is("up to the end: shift(0, 4, 1, 2, 1)", x.shift(0, 4, 1, 2, 1), 1);
    row(x, 0, 1, 2, 3, 4, 5);
    row(x, 1, 0, 0, 5);
  }
}
