/** Promises 30 to 34: count, tape, item, read, shift. */
final class TapeSentences extends Sentences {
  private TapeSentences() {}

  static void all() {
    Doc.part("Promise 30");
    Doc.says("How many: 0 HATERS, 1 ORCHARDS, 2 SEEN, 3 of the PLAN, 4 of the BOOK, 5 bytes of THE TEXT,",
        TapeSentences::count);
    Doc.says("6 bodies that ran in the latest act() (all, kept or not).", TapeSentences::countBodies);
    Doc.says("BAD.", TapeSentences::countBad);
    Doc.part("Promise 31");
    Doc.says("A TAPE becomes a row of n (0 .. 60) of a sort, all 0,", TapeSentences::tape);
    Doc.says("or holds nothing (sort -1: n does not matter): 1.", TapeSentences::tapeOfNothing);
    Doc.says("NONE: tape;", TapeSentences::tapeNone);
    Doc.says("BAD: sort, n above 60;", TapeSentences::tapeBad);
    Doc.says("SIZE.", TapeSentences::tapeSize);
    Doc.part("Promise 32");
    Doc.says("Item i of a TAPE becomes v (its lowest bits, as many as an item has;", TapeSentences::itemBits);
    Doc.says("booleans: whether v is not 0): 1.", TapeSentences::itemOfBooleans);
    Doc.says("NONE;", TapeSentences::itemNone);
    Doc.says("NOTHING;", TapeSentences::itemNothing);
    Doc.says("PLACE.", TapeSentences::itemPlace);
    Doc.part("Promise 33");
    Doc.says("Item i of a TAPE.", TapeSentences::read);
    Doc.says("NO: no such TAPE, nothing there, no such place.", TapeSentences::readNo);
    shifts();
  }

  private static void shifts() {
    Doc.part("Promise 34");
    Doc.says("n items of a TAPE from i on come to another one", TapeSentences::shift);
    Doc.says("(or the same) from j on, as they all were before: n.", TapeSentences::shiftWithin);
    Doc.says("NONE: tapes;", TapeSentences::shiftNone);
    Doc.says("NOTHING;", TapeSentences::shiftNothing);
    Doc.says("CAST: of unlike sorts;", TapeSentences::shiftCast);
    Doc.says("PLACE: n, i or j is below 0,", TapeSentences::shiftBelow);
    Doc.says("or beyond either's end.", TapeSentences::shiftBeyond);
  }

  private static void count() {
    WassailEnemies x = hating(0, 0);
    Due.orchard(x, "wear 1");
    x.see(0, 0, 0, true);
    x.see(0, 0, 0, true);
    x.see(0, 0, 0, true);
    for (int i = 0; i < 4; i++) {
      x.plan(0, 0);
    }
    for (int i = 0; i < 5; i++) {
      x.book(0, 0);
    }
    Due.feed(x, "12345678");
    int[] due = {2, 1, 3, 4, 5, 8};
    for (int what = 0; what < due.length; what++) {
      is("count(" + what + ")", x.count(what), due[what]);
    }
  }

  private static void countBodies() {
    WassailEnemies x = one(TOLD, 0, 0);
    is("no act() yet: count(6)", x.count(6), 0);
    x.act(0, 2, 0);
    is("count(6)", x.count(6), 12);
    x.act(0, 0, 0);
    is("count(6)", x.count(6), 2);
    x.act(1, 0, 0);
    is("count(6)", x.count(6), 0);
  }

  private static void countBad() {
    for (int what : outside(0, 6)) {
      is("count(" + what + ")", new WassailEnemies().count(what), BAD);
    }
  }

  private static void tape() {
    for (int sort = BYTES; sort <= BOOLEANS; sort++) {
      WassailEnemies x = new WassailEnemies();
      is("tape(5, " + sort + ", 60)", x.tape(5, sort, 60), 1);
      items(x, 5, new long[60]);
      is("item(5, 59, 1)", x.item(5, 59, 1), 1);
      is("item(5, 0, 1)", x.item(5, 0, 1), 1);
      is("tape(5, " + sort + ", 60)", x.tape(5, sort, 60), 1);
      items(x, 5, new long[60]);
      is("tape(5, " + sort + ", 1)", x.tape(5, sort, 1), 1);
      items(x, 5, 0);
      is("tape(5, " + sort + ", 0)", x.tape(5, sort, 0), 1);
      items(x, 5);
      is("a row of none: item(5, 0, 1)", x.item(5, 0, 1), PLACE);
      is("of another sort: tape(5, 3, 3)", x.tape(5, LONGS, 3), 1);
      items(x, 5, 0, 0, 0);
    }
  }

  private static void tapeOfNothing() {
    WassailEnemies x = new WassailEnemies();
    for (int n : new int[] {MIN, -1, 0, 60, 61, MAX}) {
      x.tape(0, INTS, 3);
      x.item(0, 0, 7);
      is("tape(0, -1, " + n + ")", x.tape(0, -1, n), 1);
      is("read(0, 0)", x.read(0, 0), NO);
      is("item(0, 0, 1)", x.item(0, 0, 1), NOTHING);
      is("nothing already: tape(0, -1, " + n + ")", x.tape(0, -1, n), 1);
    }
    x.tape(0, INTS, 3);
    items(x, 0, 0, 0, 0);
  }

  private static void tapeNone() {
    WassailEnemies x = new WassailEnemies();
    for (int tape : outside(0, 5)) {
      is("tape(" + tape + ", 0, 1)", x.tape(tape, BYTES, 1), NONE);
      is("tape(" + tape + ", -1, 0)", x.tape(tape, -1, 0), NONE);
      is("ahead of BAD: tape(" + tape + ", 5, 61)", x.tape(tape, 5, 61), NONE);
      is("ahead of SIZE: tape(" + tape + ", 0, -1)", x.tape(tape, BYTES, -1), NONE);
    }
  }

  private static void tapeBad() {
    WassailEnemies x = new WassailEnemies();
    x.tape(0, INTS, 2);
    x.item(0, 1, 9);
    for (int sort : outside(-1, 4)) {
      is("tape(0, " + sort + ", 1)", x.tape(0, sort, 1), BAD);
      is("ahead of SIZE: tape(0, " + sort + ", -1)", x.tape(0, sort, -1), BAD);
    }
    is("tape(0, 3, 61)", x.tape(0, LONGS, 61), BAD);
    is("tape(0, 3, MAX)", x.tape(0, LONGS, MAX), BAD);
    items(x, 0, 0, 9);
    is("tape(0, 3, 60)", x.tape(0, LONGS, 60), 1);
  }

  private static void tapeSize() {
    WassailEnemies x = new WassailEnemies();
    x.tape(0, INTS, 2);
    x.item(0, 1, 9);
    for (int sort = BYTES; sort <= BOOLEANS; sort++) {
      is("tape(0, " + sort + ", -1)", x.tape(0, sort, -1), SIZE);
      is("tape(0, " + sort + ", MIN)", x.tape(0, sort, MIN), SIZE);
      is("it still holds nothing: tape(1, " + sort + ", -1)", x.tape(1, sort, -1), SIZE);
    }
    items(x, 0, 0, 9);
    is("read(1, 0)", x.read(1, 0), NO);
    is("item(1, 0, 1)", x.item(1, 0, 1), NOTHING);
    is("tape(0, 0, 0)", x.tape(0, BYTES, 0), 1);
  }

  private static void keeps(int sort, long v, long want) {
    WassailEnemies x = new WassailEnemies();
    x.tape(1, sort, 3);
    is("sort " + sort + ": item(1, 1, " + v + ")", x.item(1, 1, v), 1);
    items(x, 1, 0, want, 0);
  }

  private static void itemBits() {
    keeps(BYTES, 127, 127);
    keeps(BYTES, 128, -128);
    keeps(BYTES, -128, -128);
    keeps(BYTES, -129, 127);
    keeps(BYTES, 255, -1);
    keeps(BYTES, 256, 0);
    keeps(SHORTS, 32767, 32767);
    keeps(SHORTS, 32768, -32768);
    keeps(SHORTS, -32769, 32767);
    keeps(SHORTS, 65536, 0);
    keeps(SHORTS, Long.MIN_VALUE, 0);
    keeps(INTS, 2147483647L, 2147483647L);
    keeps(INTS, 2147483648L, -2147483648L);
    keeps(INTS, 4294967295L, -1);
    keeps(INTS, 4294967296L, 0);
    keeps(LONGS, 4294967296L, 4294967296L);
    keeps(LONGS, Long.MAX_VALUE, Long.MAX_VALUE);
    keeps(LONGS, Long.MIN_VALUE, Long.MIN_VALUE);
  }

  private static void itemOfBooleans() {
    for (long v : new long[] {1, 2, -1, 256, 4294967296L, Long.MIN_VALUE, Long.MAX_VALUE}) {
      keeps(BOOLEANS, v, 1);
    }
    keeps(BOOLEANS, 0, 0);
    WassailEnemies x = new WassailEnemies();
    x.tape(0, BOOLEANS, 1);
    x.item(0, 0, 5);
    is("item(0, 0, 0)", x.item(0, 0, 0), 1);
    is("read(0, 0)", x.read(0, 0), 0);
  }

  private static void itemNone() {
    WassailEnemies x = new WassailEnemies();
    for (int tape : outside(0, 5)) {
      is("item(" + tape + ", 0, 1)", x.item(tape, 0, 1), NONE);
      is("item(" + tape + ", -1, 1)", x.item(tape, -1, 1), NONE);
    }
  }

  private static void itemNothing() {
    WassailEnemies x = new WassailEnemies();
    for (int i : new int[] {MIN, -1, 0, 59, 60, MAX}) {
      is("item(0, " + i + ", 1)", x.item(0, i, 1), NOTHING);
    }
    x.tape(0, INTS, 1);
    is("item(0, 0, 1)", x.item(0, 0, 1), 1);
    is("another: item(1, 0, 1)", x.item(1, 0, 1), NOTHING);
  }

  private static void itemPlace() {
    for (int n : new int[] {0, 1, 4, 60}) {
      WassailEnemies x = new WassailEnemies();
      x.tape(0, INTS, n);
      for (int i : outside(0, n - 1)) {
        is("of " + n + ": item(0, " + i + ", 1)", x.item(0, i, 1), PLACE);
      }
      items(x, 0, new long[n]);
    }
  }

  private static void read() {
    WassailEnemies x = new WassailEnemies();
    x.tape(5, LONGS, 60);
    write(x, 5, 0, 7);
    write(x, 5, 59, 8);
    is("read(5, 0)", x.read(5, 0), 7);
    is("read(5, 1)", x.read(5, 1), 0);
    is("read(5, 59)", x.read(5, 59), 8);
    x.tape(0, BYTES, 1);
    write(x, 0, 0, -1);
    is("read(0, 0)", x.read(0, 0), -1);
  }

  private static void readNo() {
    WassailEnemies x = new WassailEnemies();
    for (int tape : outside(0, 5)) {
      is("read(" + tape + ", 0)", x.read(tape, 0), NO);
    }
    is("nothing there: read(0, 0)", x.read(0, 0), NO);
    for (int n : new int[] {0, 1, 60}) {
      x.tape(0, INTS, n);
      for (int i : outside(0, n - 1)) {
        is("of " + n + ": read(0, " + i + ")", x.read(0, i), NO);
      }
    }
    x.tape(0, INTS, 2);
    is("no such place any more: read(0, 2)", x.read(0, 2), NO);
  }

  /** Two TAPES of one sort: 1 2 3 4 5, and three times 0. */
  private static WassailEnemies two(int sort) {
    WassailEnemies x = new WassailEnemies();
    x.tape(0, sort, 5);
    x.tape(1, sort, 3);
    write(x, 0, 0, 1, 2, 3, 4, 5);
    return x;
  }

  private static void shift() {
    for (int sort = BYTES; sort <= LONGS; sort++) {
      WassailEnemies x = two(sort);
      is("shift(0, 1, 1, 0, 2)", x.shift(0, 1, 1, 0, 2), 2);
      items(x, 1, 2, 3, 0);
      items(x, 0, 1, 2, 3, 4, 5);
      is("shift(1, 0, 0, 3, 2)", x.shift(1, 0, 0, 3, 2), 2);
      items(x, 0, 1, 2, 3, 2, 3);
      is("all: shift(0, 2, 1, 0, 3)", x.shift(0, 2, 1, 0, 3), 3);
      items(x, 1, 3, 2, 3);
      is("none: shift(0, 0, 1, 0, 0)", x.shift(0, 0, 1, 0, 0), 0);
      items(x, 1, 3, 2, 3);
    }
    WassailEnemies flags = two(BOOLEANS);
    is("shift(0, 3, 1, 1, 2)", flags.shift(0, 3, 1, 1, 2), 2);
    items(flags, 1, 0, 1, 1);
  }

  private static void shiftWithin() {
    WassailEnemies x = two(INTS);
    is("up: shift(0, 0, 0, 1, 4)", x.shift(0, 0, 0, 1, 4), 4);
    items(x, 0, 1, 1, 2, 3, 4);
    is("down: shift(0, 2, 0, 0, 3)", x.shift(0, 2, 0, 0, 3), 3);
    items(x, 0, 2, 3, 4, 3, 4);
    is("to where they are: shift(0, 0, 0, 0, 5)", x.shift(0, 0, 0, 0, 5), 5);
    items(x, 0, 2, 3, 4, 3, 4);
  }

  private static void shiftNone() {
    WassailEnemies x = two(INTS);
    for (int tape : outside(0, 5)) {
      is("shift(" + tape + ", 0, 0, 0, 1)", x.shift(tape, 0, 0, 0, 1), NONE);
      is("shift(0, 0, " + tape + ", 0, 1)", x.shift(0, 0, tape, 0, 1), NONE);
      is("ahead of NOTHING: shift(" + tape + ", 0, 2, 0, 1)", x.shift(tape, 0, 2, 0, 1), NONE);
      is("ahead of NOTHING: shift(2, 0, " + tape + ", 0, 1)", x.shift(2, 0, tape, 0, 1), NONE);
      is("ahead of PLACE: shift(0, 0, " + tape + ", 0, -1)", x.shift(0, 0, tape, 0, -1), NONE);
    }
  }

  private static void shiftNothing() {
    WassailEnemies x = two(INTS);
    is("shift(2, 0, 0, 0, 0)", x.shift(2, 0, 0, 0, 0), NOTHING);
    is("shift(0, 0, 2, 0, 0)", x.shift(0, 0, 2, 0, 0), NOTHING);
    is("shift(2, 0, 3, 0, 0)", x.shift(2, 0, 3, 0, 0), NOTHING);
    is("ahead of PLACE: shift(2, 0, 0, 0, -1)", x.shift(2, 0, 0, 0, -1), NOTHING);
    is("ahead of PLACE: shift(0, 0, 2, 0, -1)", x.shift(0, 0, 2, 0, -1), NOTHING);
  }

  private static void shiftCast() {
    for (int sort = BYTES; sort <= BOOLEANS; sort++) {
      for (int other = BYTES; other <= BOOLEANS; other++) {
        WassailEnemies x = new WassailEnemies();
        x.tape(0, sort, 2);
        x.tape(1, other, 2);
        String sorts = sort + " to " + other + ": ";
        is(sorts + "shift(0, 0, 1, 0, 1)", x.shift(0, 0, 1, 0, 1), sort == other ? 1 : CAST);
        is(sorts + "shift(0, 0, 1, 0, 0)", x.shift(0, 0, 1, 0, 0), sort == other ? 0 : CAST);
        is(sorts + "shift(0, 0, 1, 0, -1)", x.shift(0, 0, 1, 0, -1), sort == other ? PLACE : CAST);
      }
    }
  }

  private static void shiftBelow() {
    WassailEnemies x = two(SHORTS);
    for (int bad : new int[] {MIN, -1}) {
      is("shift(0, 0, 1, 0, " + bad + ")", x.shift(0, 0, 1, 0, bad), PLACE);
      is("shift(0, 5, 1, 3, " + bad + ")", x.shift(0, 5, 1, 3, bad), PLACE);
      is("shift(0, " + bad + ", 1, 0, 2)", x.shift(0, bad, 1, 0, 2), PLACE);
      is("shift(0, " + bad + ", 1, 0, 0)", x.shift(0, bad, 1, 0, 0), PLACE);
      is("shift(0, 0, 1, " + bad + ", 2)", x.shift(0, 0, 1, bad, 2), PLACE);
      is("shift(0, 0, 1, " + bad + ", 0)", x.shift(0, 0, 1, bad, 0), PLACE);
    }
    items(x, 0, 1, 2, 3, 4, 5);
    items(x, 1, 0, 0, 0);
  }

  private static void shiftBeyond() {
    WassailEnemies x = two(SHORTS);
    for (int bad : new int[] {4, 6, 60, MAX}) {
      is("shift(0, 0, 1, 0, " + bad + ")", x.shift(0, 0, 1, 0, bad), PLACE);
      is("shift(1, 0, 0, 0, " + bad + ")", x.shift(1, 0, 0, 0, bad), PLACE);
      is("shift(1, 1, 0, 1, " + bad + ")", x.shift(1, 1, 0, 1, bad), PLACE);
    }
    for (int bad : new int[] {6, 60, MAX - 1, MAX}) {
      is("shift(0, " + bad + ", 1, 0, 0)", x.shift(0, bad, 1, 0, 0), PLACE);
      is("shift(0, " + bad + ", 1, 0, 2)", x.shift(0, bad, 1, 0, 2), PLACE);
      is("shift(1, 0, 0, " + bad + ", 0)", x.shift(1, 0, 0, bad, 0), PLACE);
      is("shift(1, 0, 0, " + bad + ", 2)", x.shift(1, 0, 0, bad, 2), PLACE);
    }
    is("shift(0, 4, 1, 0, 2)", x.shift(0, 4, 1, 0, 2), PLACE);
    is("shift(0, 0, 1, 2, 2)", x.shift(0, 0, 1, 2, 2), PLACE);
    items(x, 0, 1, 2, 3, 4, 5);
    items(x, 1, 0, 0, 0);
    is("none at the end: shift(0, 5, 1, 3, 0)", x.shift(0, 5, 1, 3, 0), 0);
    is("up to the end: shift(0, 4, 1, 2, 1)", x.shift(0, 4, 1, 2, 1), 1);
    items(x, 1, 0, 0, 5);
  }
}
