/** Terms, ==== 2: ACTS, BODIES, THE TRACE; promises 27 to 29: act, trace, taken. */
final class ActSentences extends Sentences {
  private static final int SINGS = 0, SPITS = 1, TELLS = 2;

  private ActSentences() {}

  static void all() {
    Doc.part("Terms 2");
    Doc.says("ACTS of a HATER with x (wrapping):", ActSentences::wrapping);
    Doc.says("0 sings, 1 spits, 2 tells; i its number.", ActSentences::acts);
    bodies();
    Doc.says("sings(..) and so on: the body of its KIND, or, if that has none, of the next KIND above that has one;",
        ActSentences::ofItsKind);
    Doc.says("super.sings(..): so from the KIND above the body's on;", ActSentences::ofTheKindAbove);
    Doc.says("all that stands in a body is done from the left on.", ActSentences::fromTheLeft);
    Doc.says("THE TRACE: the numbers of the bodies that ran in the latest act(), as they began;",
        ActSentences::latest);
    Doc.says("the first 20 are kept.", ActSentences::kept);
    promises();
  }

  private static void bodies() {
    Doc.says("BODIES: HATER: 10 sings: x + i.", () -> body(HATER, SINGS, 7, 9, 10));
    Doc.says("11 spits: sings(x) - v.", () -> body(HATER, SPITS, 7, 9 - 5, 11, 10));
    Doc.says("12 tells: spits(x) * 2.", () -> body(HATER, TELLS, 7, 4 * 2, 12, 11, 10));
    Doc.says("UNCLE: 20 spits: super.spits(x) ^ 6.", () -> body(UNCLE, SPITS, 7, 4 ^ 6, 20, 11, 10));
    Doc.says("LAD: 30 sings: super.sings(x * 3).", () -> body(LAD, SINGS, 7, 21 + 2, 30, 10));
    Doc.says("LOVER: 40 tells: super.tells(x) + spits(1).",
        () -> body(LOVER, TELLS, 7, 8 + (3 - 5), 40, 12, 11, 10, 11, 10));
    Doc.says("GROWLER: 50 sings: -super.sings(x).", () -> body(GROWLER, SINGS, 7, -9, 50, 10));
    Doc.says("51 spits: super.spits(x + 1).", () -> body(GROWLER, SPITS, 7, (-10 - 5) ^ 6, 51, 20, 11, 50, 10));
    Doc.says("FELLER: 60 tells: super.tells(x - i).",
        () -> body(FELLER, TELLS, 7, (5 * 3 + 2 - 5) * 2, 60, 12, 11, 30, 10));
    Doc.says("TOLD: 70 spits: super.spits(x) + super.sings(2).",
        () -> body(TOLD, SPITS, 7, (9 ^ 5) - 5 + 4, 70, 11, 71, 10, 10));
    Doc.says("71 sings: super.sings(x) ^ v.", () -> body(TOLD, SINGS, 7, 9 ^ 5, 71, 10));
  }

  private static void promises() {
    Doc.part("Promise 27");
    Doc.says("An ACT (0 sings, 1 spits, 2 tells) of a HATER with x.", ActSentences::acts);
    Doc.says("0, and no TRACE then: no such HATER, act.", ActSentences::noSuchHater);
    Doc.says("0, and no TRACE then: no such HATER, act.", ActSentences::noSuchAct);
    Doc.part("Promise 28");
    Doc.says("THE TRACE's i-th body.", ActSentences::traced);
    Doc.says("NONE.", ActSentences::noSuchBody);
    Doc.part("Promise 29");
    Doc.says("A HATER taken for one of KIND k (0 .. 6), or one under that: its KIND.", ActSentences::taken);
    Doc.says("BAD: k;", ActSentences::takenBad);
    Doc.says("NOTHING: no such HATER;", ActSentences::takenNothing);
    Doc.says("CAST.", ActSentences::takenCast);
  }

  private static void act(WassailEnemies x, int hater, int act, int arg, int want, int... trace) {
    String call = "act(" + hater + ", " + act + ", " + arg + ")";
    is(call, x.act(hater, act, arg), want);
    is("count(6) behind " + call, x.count(6), trace.length);
    for (int i = 0; i < trace.length; i++) {
      is("trace(" + i + ") behind " + call, x.trace(i), trace[i]);
    }
    is("trace(" + trace.length + ") behind " + call, x.trace(trace.length), NONE);
  }

  /** An ACT of a HATER whose number is 2 and whose v is 5. */
  private static void body(int kind, int act, int arg, int want, int... trace) {
    WassailEnemies x = hating(0, 0);
    x.hater(kind, 5, 0);
    act(x, 2, act, arg, want, trace);
  }

  private static void wrapping() {
    WassailEnemies x = hating(0);
    x.hater(LAD, 9, 0);
    x.hater(GROWLER, 9, 0);
    x.hater(HATER, 9, 0);
    x.hater(FELLER, 0, 0);
    act(x, 3, SINGS, MAX, MIN + 2, 10);
    act(x, 3, SPITS, MIN, MIN + 3 - 9, 11, 10);
    act(x, 3, TELLS, MAX - 3, (MAX - 9) * 2, 12, 11, 10);
    act(x, 1, SINGS, MAX, MAX * 3 + 1, 30, 10);
    act(x, 1, SPITS, MIN, MIN * 3 + 1 - 9, 11, 30, 10);
    act(x, 2, SINGS, MAX, -(MAX + 2), 50, 10);
    act(x, 2, SINGS, MIN - 2, MIN, 50, 10);
    act(x, 2, SPITS, MAX, (-(MIN + 2) - 9) ^ 6, 51, 20, 11, 50, 10);
    act(x, 4, TELLS, MIN, ((MIN - 4) * 3 + 4) * 2, 60, 12, 11, 30, 10);
  }

  private static void acts() {
    WassailEnemies x = new WassailEnemies();
    for (int i = 0; i < 6; i++) {
      x.hater(HATER, 9 - i, 0);
    }
    for (int i = 0; i < 6; i++) {
      act(x, i, SINGS, -3, i - 3, 10);
      act(x, i, SPITS, -3, i - 3 - (9 - i), 11, 10);
      act(x, i, TELLS, -3, (i - 3 - (9 - i)) * 2, 12, 11, 10);
    }
    x.leave(1, true);
    act(x, 1, SINGS, 4, 5, 10);
  }

  private static void ofItsKind() {
    body(UNCLE, SINGS, 7, 9, 10);
    body(UNCLE, TELLS, 7, (4 ^ 6) * 2, 12, 20, 11, 10);
    body(LAD, SPITS, 7, 23 - 5, 11, 30, 10);
    body(LAD, TELLS, 7, 18 * 2, 12, 11, 30, 10);
    body(LOVER, SINGS, 7, 9, 10);
    body(LOVER, SPITS, 7, 4, 11, 10);
    body(GROWLER, TELLS, 7, ((-10 - 5) ^ 6) * 2, 12, 51, 20, 11, 50, 10);
    body(FELLER, SINGS, 7, 23, 30, 10);
    body(FELLER, SPITS, 7, 18, 11, 30, 10);
  }

  /** TOLD has LOVER above, which has no sings: super.sings(2) is that of HATER, not its own. */
  private static void ofTheKindAbove() {
    body(TOLD, SPITS, -2, (0 ^ 5) - 5 + 4, 70, 11, 71, 10, 10);
    body(GROWLER, SPITS, -3, (0 - 5) ^ 6, 51, 20, 11, 50, 10);
    body(FELLER, TELLS, 2, (0 + 2 - 5) * 2, 60, 12, 11, 30, 10);
  }

  private static void fromTheLeft() {
    int first = (9 ^ 5) - 5 + 4;
    int second = (3 ^ 5) - 5 + 4;
    body(TOLD, TELLS, 7, first * 2 + second, 40, 12, 70, 11, 71, 10, 10, 70, 11, 71, 10, 10);
  }

  private static void latest() {
    WassailEnemies x = one(LOVER, 5, 0);
    act(x, 0, TELLS, 7, (7 - 5) * 2 + (1 - 5), 40, 12, 11, 10, 11, 10);
    act(x, 0, SINGS, 7, 7, 10);
    x.pass(1);
    is("no other call is an act(): trace(0)", x.trace(0), 10);
    is("no other call is an act(): count(6)", x.count(6), 1);
  }

  /** The longest that there is has 12 bodies, so all are kept. */
  private static void kept() {
    WassailEnemies x = one(TOLD, 5, 0);
    x.act(0, TELLS, 7);
    is("count(6)", x.count(6), 12);
    is("trace(11)", x.trace(11), 10);
    for (int i = 12; i <= 21; i++) {
      is("trace(" + i + ")", x.trace(i), NONE);
    }
  }

  private static void noSuchHater() {
    WassailEnemies x = new WassailEnemies();
    act(x, 0, SINGS, 5, 0);
    x.hater(HATER, 1, 0);
    for (int bad : new int[] {MIN, -1, 1, 6, MAX}) {
      act(x, 0, TELLS, 5, 8, 12, 11, 10);
      act(x, bad, SINGS, 5, 0);
    }
  }

  private static void noSuchAct() {
    WassailEnemies x = one(HATER, 1, 0);
    for (int bad : outside(0, 2)) {
      act(x, 0, SPITS, 5, 4, 11, 10);
      act(x, 0, bad, 5, 0);
    }
  }

  private static void traced() {
    WassailEnemies x = one(GROWLER, 5, 0);
    is("no act() yet: trace(0)", x.trace(0), NONE);
    x.act(0, TELLS, 7);
    int[] want = {12, 51, 20, 11, 50, 10};
    for (int i = 0; i < want.length; i++) {
      is("trace(" + i + ")", x.trace(i), want[i]);
    }
  }

  private static void noSuchBody() {
    WassailEnemies x = one(HATER, 0, 0);
    x.act(0, SPITS, 1);
    is("trace(1)", x.trace(1), 10);
    for (int bad : outside(0, 1)) {
      is("trace(" + bad + ")", x.trace(bad), NONE);
    }
    for (int bad : outside(0, 19)) {
      is("trace(" + bad + ")", x.trace(bad), NONE);
    }
  }

  private static void taken() {
    int[][] as = {{HATER}, {HATER, UNCLE}, {HATER, LAD}, {HATER, LOVER}, {HATER, UNCLE, GROWLER}, {HATER, LAD, FELLER},
        {HATER, LOVER, TOLD}};
    for (int kind = HATER; kind <= TOLD; kind++) {
      WassailEnemies x = hating(0);
      x.hater(kind, 0, 0);
      for (int k : as[kind]) {
        is("taken(1, " + k + ")", x.taken(1, k), kind);
      }
    }
  }

  private static void takenBad() {
    WassailEnemies x = one(TOLD, 0, 0);
    for (int k : outside(0, 6)) {
      is("taken(0, " + k + ")", x.taken(0, k), BAD);
      is("ahead of NOTHING: taken(1, " + k + ")", x.taken(1, k), BAD);
    }
  }

  private static void takenNothing() {
    WassailEnemies x = new WassailEnemies();
    is("no HATERS: taken(0, 0)", x.taken(0, 0), NOTHING);
    x.hater(HATER, 0, 0);
    for (int hater : outside(0, 0)) {
      is("taken(" + hater + ", 0)", x.taken(hater, 0), NOTHING);
      is("ahead of CAST: taken(" + hater + ", 6)", x.taken(hater, 6), NOTHING);
    }
  }

  private static void takenCast() {
    int[][] not = {{UNCLE, LAD, LOVER, GROWLER, FELLER, TOLD}, {LAD, LOVER, GROWLER, FELLER, TOLD},
        {UNCLE, LOVER, GROWLER, FELLER, TOLD}, {UNCLE, LAD, GROWLER, FELLER, TOLD}, {LAD, LOVER, FELLER, TOLD},
        {UNCLE, LOVER, GROWLER, TOLD}, {UNCLE, LAD, GROWLER, FELLER}};
    for (int kind = HATER; kind <= TOLD; kind++) {
      WassailEnemies x = one(kind, 0, 0);
      for (int k : not[kind]) {
        is("KIND " + kind + ": taken(0, " + k + ")", x.taken(0, k), CAST);
      }
    }
  }
}
