import java.util.ArrayList;
import java.util.List;

/** Terms, ==== 3: TAPES, what is JUDGED, refusals, answers that change nothing. */
final class Terms3Sentences extends Sentences {
  private Terms3Sentences() {}

  static void all() {
    Doc.part("Terms 3");
    Doc.says("TAPES 0 .. 5 hold nothing (at first),", Terms3Sentences::tapes);
    Doc.says("or a row of 0 bytes, 1 shorts, 2 ints, 3 longs, 4 booleans (items 0, 1).", Terms3Sentences::sorts);
    Doc.says("BORE told by a row of longs, from a place on, TREE by TREE, is JUDGED: the first that is otherwise;",
        Terms3Sentences::judgedFirst);
    Doc.says("-5: none;", Terms3Sentences::judgedNone);
    Doc.says("100 and how many were looked at, if the row ends ahead of that", Terms3Sentences::judgedShort);
    Doc.says("(or the place is below 0, or the TAPE holds nothing).", Terms3Sentences::judgedNowhere);
    Doc.says("The host's refusals: NOTHING (-11): nothing is there;", Terms3Sentences::nothing);
    Doc.says("CAST (-12): another sort or KIND;", Terms3Sentences::cast);
    Doc.says("PLACE (-13): no such place;", Terms3Sentences::place);
    Doc.says("SIZE (-14): a size below 0.", Terms3Sentences::size);
    Doc.says("Answers: NONE (-1) no such number; BAD (-2) a number is not as told; STATE (-3) as told; FULL (-4);",
        Terms3Sentences::constants);
    Doc.says("the first that a call's words name.", Terms3Sentences::firstNamed);
    Doc.says("Where it may be below 0, -10001 stands for NONE.", Terms3Sentences::belowZero);
    Doc.says("What is answered so changes nothing;", Terms3Sentences::refusalsChangeNothing);
    Doc.says("what is asked changes nothing.", Terms3Sentences::askingChangesNothing);
    Doc.says("The constants: `NO = Long.MIN_VALUE`: There is no such number.", Terms3Sentences::no);
  }

  private static void tapes() {
    WassailEnemies x = new WassailEnemies();
    for (int tape = 0; tape <= 5; tape++) {
      is("read(" + tape + ", 0)", x.read(tape, 0), NO);
      is("item(" + tape + ", 0, 0)", x.item(tape, 0, 0), NOTHING);
      is("tape(" + tape + ", 3, 1)", x.tape(tape, LONGS, 1), 1);
      is("read(" + tape + ", 0)", x.read(tape, 0), 0);
    }
    for (int tape : outside(0, 5)) {
      is("tape(" + tape + ", 3, 1)", x.tape(tape, LONGS, 1), NONE);
      is("tape(" + tape + ", -1, 0)", x.tape(tape, -1, 0), NONE);
    }
  }

  private static void sorts() {
    long[] least = {-128, -32768, MIN, Long.MIN_VALUE, 0};
    long[] most = {127, 32767, MAX, Long.MAX_VALUE, 1};
    for (int sort = BYTES; sort <= BOOLEANS; sort++) {
      WassailEnemies x = new WassailEnemies();
      is("tape(0, " + sort + ", 2)", x.tape(0, sort, 2), 1);
      write(x, 0, 0, least[sort], most[sort]);
      items(x, 0, least[sort], most[sort]);
    }
    for (int sort : outside(-1, 4)) {
      is("tape(0, " + sort + ", 2)", new WassailEnemies().tape(0, sort, 2), BAD);
    }
  }

  /** TREES 0 .. 4 bore 2, 0, 3, 0, 1; TAPE 1 has so many longs, and all of that from a place on. */
  private static WassailEnemies told(int n, int from) {
    WassailEnemies x = hating(23, 26, 20);
    x.lead(0, 0);
    x.lead(2, 1);
    x.lead(4, 2);
    x.pass(5);
    x.tape(1, LONGS, n);
    long[] bore = {2, 0, 3, 0, 1};
    for (int t = 0; t < 5 && from + t < n; t++) {
      is("item", x.item(1, from + t, bore[t]), 1);
    }
    return x;
  }

  private static void judgedFirst() {
    for (int t = 0; t < 5; t++) {
      WassailEnemies x = told(9, 3);
      x.item(1, 3 + t, 1L << 32);
      is("judge(1, 3)", x.judge(1, 3), t);
      x.item(1, 7, 99);
      is("the first: judge(1, 3)", x.judge(1, 3), t);
    }
    WassailEnemies longs = told(5, 0);
    longs.item(1, 0, (1L << 32) + 2);
    is("all of a long counts: judge(1, 0)", longs.judge(1, 0), 0);
    longs.item(1, 0, -2);
    is("judge(1, 0)", longs.judge(1, 0), 0);
  }

  private static void judgedNone() {
    is("judge(1, 0)", told(5, 0).judge(1, 0), ABSENT);
    is("judge(1, 55)", told(60, 55).judge(1, 55), ABSENT);
    WassailEnemies x = told(9, 1);
    is("judge(1, 1)", x.judge(1, 1), ABSENT);
    x.item(1, 0, 99);
    x.item(1, 6, 99);
    is("what is ahead and behind does not count: judge(1, 1)", x.judge(1, 1), ABSENT);
  }

  private static void judgedShort() {
    for (int n = 0; n < 5; n++) {
      is("the first " + n + ": judge(1, 0)", told(n, 0).judge(1, 0), 100 + n);
      is("the first " + n + ", from 3 on: judge(1, 3)", told(3 + n, 3).judge(1, 3), 100 + n);
    }
    WassailEnemies x = told(4, 0);
    x.item(1, 3, 5);
    is("otherwise ahead of the end: judge(1, 0)", x.judge(1, 0), 3);
    for (int i : new int[] {4, 5, 60, MAX - 4, MAX}) {
      is("judge(1, " + i + ")", x.judge(1, i), 100);
    }
  }

  private static void judgedNowhere() {
    WassailEnemies x = told(5, 0);
    for (int i : new int[] {-1, -5, MIN}) {
      is("judge(1, " + i + ")", x.judge(1, i), 100);
    }
    for (int i : new int[] {MIN, -1, 0, 60, MAX}) {
      is("holds nothing: judge(0, " + i + ")", x.judge(0, i), 100);
    }
    x.tape(1, -1, 0);
    is("holds nothing again: judge(1, 0)", x.judge(1, 0), 100);
  }

  private static void nothing() {
    WassailEnemies x = new WassailEnemies();
    is("taken(0, 0)", x.taken(0, 0), -11);
    is("item(0, 0, 0)", x.item(0, 0, 0), -11);
    is("shift(0, 0, 1, 0, 0)", x.shift(0, 0, 1, 0, 0), -11);
  }

  private static void cast() {
    WassailEnemies x = one(UNCLE, 0, 0);
    is("taken(0, 2)", x.taken(0, LAD), -12);
    x.tape(0, INTS, 5);
    x.tape(1, LONGS, 5);
    is("judge(0, 0)", x.judge(0, 0), -12);
    is("shift(0, 0, 1, 0, 0)", x.shift(0, 0, 1, 0, 0), -12);
  }

  private static void place() {
    WassailEnemies x = new WassailEnemies();
    x.tape(0, INTS, 5);
    is("item(0, 5, 0)", x.item(0, 5, 0), -13);
    is("shift(0, 0, 0, 0, 6)", x.shift(0, 0, 0, 0, 6), -13);
  }

  private static void size() {
    WassailEnemies x = new WassailEnemies();
    is("tape(0, 0, -1)", x.tape(0, BYTES, -1), -14);
    is("tape(0, 0, 0)", x.tape(0, BYTES, 0), 1);
  }

  private static void constants() {
    is("NONE", WassailEnemies.NONE, -1);
    is("BAD", WassailEnemies.BAD, -2);
    is("STATE", WassailEnemies.STATE, -3);
    is("FULL", WassailEnemies.FULL, -4);
  }

  /** Calls that could be refused in several ways. */
  private static void firstNamed() {
    WassailEnemies x = full();
    is("NONE, BAD, FULL: hater(7, 10, 100)", x.hater(7, 10, 100), NONE);
    is("BAD, FULL: hater(0, 10, 0)", x.hater(HATER, 10, 0), BAD);
    is("NONE, BAD: hate(6, 0, 100)", x.hate(6, 0, 100), NONE);
    is("NONE, BAD: hate(0, 5, 100)", x.hate(0, 5, 100), NONE);
    is("NONE, BAD, STATE: row(0, 4, 10)", x.row(0, 4, 10), NONE);
    is("BAD, STATE: row(0, 0, 10)", x.row(0, 0, 10), BAD);
    is("BAD, FULL: feed(128)", x.feed(128), BAD);
    is("FULL, a FAULT: orchard()", x.orchard(), FULL);
    is("NONE, BAD: on(61, 1)", x.on(61, 1), NONE);
    is("NONE, BAD: turn(5, 0, 0)", x.turn(5, 0, 0), NONE);
    is("NONE, BAD: turn(0, 4, 3)", x.turn(0, 4, 3), NONE);
    is("BAD, fewer: turn(0, 4, 2)", x.turn(0, 4, 2), BAD);
    is("NONE, BAD, FULL: see(0, 5, 21, true)", x.see(0, 5, 21, true), NONE);
    is("BAD, FULL: see(0, 0, 21, true)", x.see(0, 0, 21, true), BAD);
    is("NONE, FULL: plan(1, 6)", x.plan(1, 6), NONE);
    is("NONE, BAD, FULL: book(5, 10000)", x.book(5, 10000), NONE);
    is("BAD, FULL: book(0, 10000)", x.book(0, 10000), BAD);
    is("BAD, NOTHING: taken(6, 7)", x.taken(6, 7), BAD);
    is("NOTHING, CAST: taken(6, 6)", x.taken(6, 6), NOTHING);
    is("NONE, BAD: tape(6, 5, 61)", x.tape(6, 5, 61), NONE);
    is("BAD, SIZE: tape(0, 5, -1)", x.tape(0, 5, -1), BAD);
    is("NOTHING, PLACE: item(5, -1, 0)", x.item(5, -1, 0), NOTHING);
    is("NONE, CAST: judge(6, 0)", x.judge(6, 0), NONE);
    is("CAST, below 0: judge(0, -1)", x.judge(0, -1), CAST);
    is("NONE, NOTHING: shift(6, 0, 5, 0, -1)", x.shift(6, 0, 5, 0, -1), NONE);
    is("NONE, NOTHING: shift(5, 0, 6, 0, -1)", x.shift(5, 0, 6, 0, -1), NONE);
    is("NOTHING, CAST, PLACE: shift(0, 0, 5, 0, -1)", x.shift(0, 0, 5, 0, -1), NOTHING);
    is("CAST, PLACE: shift(0, 0, 1, 0, -1)", x.shift(0, 0, 1, 0, -1), CAST);
    WassailEnemies late = new WassailEnemies();
    passTo9999(late);
    is("BAD, STATE: pass(61)", late.pass(61), BAD);
  }

  private static void belowZero() {
    WassailEnemies x = one(LOVER, 0, 99);
    is("of(0, 20)", x.of(0, 20), -49);
    is("of(1, 20)", x.of(1, 20), NO_SUCH);
    is("of(0, 4)", x.of(0, 4), NO_SUCH);
    is("ring(2)", x.ring(2), NO_SUCH);
  }

  private static void no() {
    is("NO", WassailEnemies.NO, Long.MIN_VALUE);
  }

  // ---- what changes nothing

  /** An object that has all it can, THE IMAGE of how it is with its HATERS, and TAPES 0 to 2. */
  private static WassailEnemies full() {
    WassailEnemies x = new WassailEnemies();
    for (int i = 0; i < 6; i++) {
      is("orchard()", Due.orchard(x, "need 1" + i), i);
    }
    Due.feed(x, "x".repeat(100));
    for (int p = 0; p < 6; p++) {
      x.hater(p, p, 15 * p);
      x.lead(p, p);
    }
    x.pass(2);
    for (int i = 0; i < 10; i++) {
      x.see(i % 6, i % 5, i, i < 3);
      x.book(i % 5, i % 3);
      x.plan(i % 2, i % 6);
    }
    x.act(3, 2, 5);
    x.tape(0, BYTES, 3);
    x.tape(1, LONGS, 4);
    write(x, 0, 0, 7, 8, 9);
    write(x, 1, 0, 1, 2, 3, 4);
    x.image();
    return x;
  }

  /** What an object tells of itself, in some 100 calls. */
  private static List<Long> state(WassailEnemies x) {
    List<Long> all = new ArrayList<>();
    for (int i = 0; i < 5; i++) {
      all.add((long) x.told(i));
      all.add((long) x.told(10 + i));
      all.add((long) x.told(20 + i));
    }
    for (int p = 0; p < 6; p++) {
      all.add((long) x.of(p, 0));
      all.add((long) x.of(p, 1));
      all.add((long) x.of(p, 2));
      all.add((long) x.of(p, 10 + p % 5));
      all.add((long) x.hates(p, p % 5, 0));
      all.add((long) x.can(p, 0));
    }
    for (int i = 0; i < 7; i++) {
      all.add((long) x.count(i));
      all.add((long) x.trace(i));
    }
    for (int tape = 0; tape < 6; tape++) {
      for (int i = 0; i < 5; i++) {
        all.add(x.read(tape, i));
      }
    }
    all.add((long) x.ends(0));
    all.add((long) x.looked());
    return all;
  }

  private static void refusalsChangeNothing() {
    WassailEnemies x = full();
    List<Long> before = state(x);
    x.hater(7, 0, 0);
    x.hater(HATER, 10, 0);
    x.hater(HATER, 0, 0);
    x.hate(6, 0, 1);
    x.hate(0, 5, 1);
    x.hate(0, 0, 100);
    x.lead(5, 0);
    x.lead(0, 6);
    x.leave(6, true);
    x.row(0, 0, 10);
    x.row(0, 0, 1);
    x.feed(128);
    x.feed('x');
    x.orchard();
    x.pass(61);
    x.see(6, 0, 0, true);
    x.see(0, 0, 21, true);
    x.see(0, 0, 0, true);
    x.plan(4, 0);
    x.plan(1, 6);
    x.plan(0, 0);
    x.book(5, 0);
    x.book(0, 10000);
    x.book(0, 0);
    x.tape(0, 5, 3);
    x.tape(0, BYTES, 61);
    x.tape(0, BYTES, -1);
    x.item(0, 3, 1);
    x.item(5, 0, 1);
    x.shift(0, 0, 0, 1, 3);
    x.shift(0, 0, 1, 0, 1);
    Due.holds("all is as before", state(x).equals(before));
    WassailEnemies young = hating(50);
    young.lead(0, 0);
    before = state(young);
    is("undo()", young.undo(), STATE);
    Due.holds("all is as before undo()", state(young).equals(before));
    WassailEnemies late = hating(99);
    late.lead(0, 0);
    passTo9999(late);
    before = state(late);
    is("pass(1)", late.pass(1), STATE);
    Due.holds("all is as before pass(1)", state(late).equals(before));
  }

  private static void askingChangesNothing() {
    WassailEnemies x = full();
    List<Long> before = state(x);
    for (int t = 0; t < 5; t++) {
      x.of(t, 30 + t);
      x.on(60, 10 + t);
      x.turn(t, 3, -1);
      x.hates(t, t, 1);
      x.can(t, 1);
      x.odds(t, 0);
      x.mean(t, 1);
      x.ring(10 + t);
    }
    x.on(60, 0);
    x.told(5);
    x.told(6);
    x.ends(0);
    x.ends(1);
    x.looked();
    x.judge(1, 0);
    x.taken(0, 0);
    Due.holds("all is as before", state(x).equals(before));
  }
}
