/** What the tests of sentences have in common. */
abstract class Sentences {
  static final int NONE = -1, BAD = -2, STATE = -3, FULL = -4, ABSENT = -5, NO_SUCH = -10001;
  static final int NOTHING = -11, CAST = -12, PLACE = -13, SIZE = -14;
  static final int MIN = Integer.MIN_VALUE, MAX = Integer.MAX_VALUE;
  static final long NO = Long.MIN_VALUE;
  static final int HATER = 0, UNCLE = 1, LAD = 2, LOVER = 3, GROWLER = 4, FELLER = 5, TOLD = 6;
  static final int BYTES = 0, SHORTS = 1, INTS = 2, LONGS = 3, BOOLEANS = 4;

  /** By KIND the one that it is under. */
  static final int[] ABOVE = {-1, HATER, HATER, HATER, UNCLE, LAD, LOVER};

  static void is(String call, long got, long want) {
    Due.is(call, got, want);
  }

  /** The nearest numbers below and above a range, and the farthest. */
  static int[] outside(int least, int most) {
    return new int[] {MIN, least - 1, most + 1, MAX};
  }

  /** A new object with HATERS of KIND 0 and v 0 by their HATE. */
  static WassailEnemies hating(int... hates) {
    WassailEnemies x = new WassailEnemies();
    for (int hate : hates) {
      x.hater(HATER, 0, hate);
    }
    return x;
  }

  /** A new object with one HATER. */
  static WassailEnemies one(int kind, int v, int hate) {
    WassailEnemies x = new WassailEnemies();
    is("hater(" + kind + ", " + v + ", " + hate + ")", x.hater(kind, v, hate), 0);
    return x;
  }

  static WassailEnemies under(String text) {
    return Due.under(text);
  }

  /** A text that is no ORCHARD: its FAULT. */
  static void fault(String text, int place) {
    is("orchard() of " + text, Due.orchard(new WassailEnemies(), text), -10 - place);
  }

  /** All that can go until YEAR 9999, in 167 calls. */
  static void passTo9999(WassailEnemies x) {
    for (int i = 0; i < 166; i++) {
      x.pass(60);
    }
    is("pass(39)", x.pass(39), 9999);
  }

  /** BORE of all five TREES. */
  static void bore(WassailEnemies x, int... want) {
    for (int t = 0; t < 5; t++) {
      is("told(1" + t + ")", x.told(10 + t), want[t]);
    }
  }

  static void write(WassailEnemies x, int tape, int from, long... items) {
    for (int i = 0; i < items.length; i++) {
      is("item(" + tape + ", " + (from + i) + ", " + items[i] + ")", x.item(tape, from + i, items[i]), 1);
    }
  }

  /** All items of a TAPE, and that there are no more. */
  static void items(WassailEnemies x, int tape, long... want) {
    for (int i = 0; i < want.length; i++) {
      is("read(" + tape + ", " + i + ")", x.read(tape, i), want[i]);
    }
    is("read(" + tape + ", " + want.length + ")", x.read(tape, want.length), NO);
  }
}
