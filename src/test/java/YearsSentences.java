/** Promises 11 to 14: pass, on, ring, turn. */
final class YearsSentences extends Sentences {
  private YearsSentences() {}

  static void all() {
    Doc.part("Promise 11");
    Doc.says("n YEARS (0 .. 60) go: YEAR.", YearsSentences::pass);
    Doc.says("BAD;", YearsSentences::passBad);
    Doc.says("STATE: it would be above 9999.", YearsSentences::passState);
    Doc.part("Promise 12");
    Doc.says("ON: what 0 which BEAR then, 10 and t BORE of TREE t, 20 and 5 times p and t HATE of HATER p for TREE t.",
        YearsSentences::on);
    Doc.says("NONE; BAD: n.", YearsSentences::onNone);
    Doc.says("NONE; BAD: n.", YearsSentences::onBad);
    Doc.part("Promise 13");
    Doc.says("RING: what 0 how many BEAR, 1 FORCE, 10 and t who has TREE t (-5).", YearsSentences::ring);
    Doc.says("-10001: NONE.", YearsSentences::ringNone);
    Doc.part("Promise 14");
    Doc.says("TURNS: k -1 in how many YEARS, else the k-th", YearsSentences::turn);
    Doc.says("(-5: there are fewer, or no HATERS).", YearsSentences::turnFewer);
    Doc.says("(-5: there are fewer, or no HATERS).", YearsSentences::turnNoHaters);
    Doc.says("NONE: tree, k (-1 .. 2);", YearsSentences::turnNone);
    Doc.says("BAD: n.", YearsSentences::turnBad);
  }

  private static void pass() {
    WassailEnemies x = hating(99);
    x.lead(0, 0);
    is("pass(0)", x.pass(0), 0);
    is("told(10)", x.told(10), 0);
    is("of(0, 10)", x.of(0, 10), 99);
    is("pass(1)", x.pass(1), 1);
    is("told(10)", x.told(10), 1);
    is("pass(2)", x.pass(2), 3);
    is("told(10)", x.told(10), 3);
    is("of(0, 10)", x.of(0, 10), 90);
    is("pass(60)", x.pass(60), 63);
    is("99 .. 21: told(10)", x.told(10), 27);
    is("of(0, 10)", x.of(0, 10), 18);
    is("told(0)", x.told(0), 63);
  }

  private static void passBad() {
    WassailEnemies x = hating(50);
    x.lead(0, 0);
    for (int n : outside(0, 60)) {
      is("pass(" + n + ")", x.pass(n), BAD);
    }
    is("told(0)", x.told(0), 0);
    is("told(10)", x.told(10), 0);
  }

  private static void passState() {
    WassailEnemies x = under("wear 0");
    x.hater(HATER, 0, 99);
    x.lead(2, 0);
    for (int i = 1; i <= 166; i++) {
      is("pass(60)", x.pass(60), 60 * i);
    }
    is("to 10020: pass(60)", x.pass(60), STATE);
    is("to 10000: pass(40)", x.pass(40), STATE);
    is("told(0)", x.told(0), 9960);
    is("told(12)", x.told(12), 9960);
    is("behind BAD: pass(61)", x.pass(61), BAD);
    is("to 9999: pass(39)", x.pass(39), 9999);
    is("pass(1)", x.pass(1), STATE);
    is("pass(0)", x.pass(0), 9999);
    is("told(12)", x.told(12), 9999);
  }

  private static void on() {
    WassailEnemies x = hating(23, 50, 19);
    x.lead(1, 0);
    x.lead(3, 1);
    is("on(0, 0)", x.on(0, 0), 10);
    is("on(2, 0)", x.on(2, 0), 8);
    int[] bore = {0, 2, 0, 3, 0};
    for (int t = 0; t < 5; t++) {
      is("on(3, 1" + t + ")", x.on(3, 10 + t), bore[t]);
      is("on(0, 1" + t + ")", x.on(0, 10 + t), 0);
    }
    int[] hate = {23, 17, 23, 23, 23, 50, 50, 50, 41, 50, 19, 19, 19, 19, 19};
    for (int i = 0; i < 15; i++) {
      is("on(3, 20 + " + i + ")", x.on(3, 20 + i), hate[i]);
    }
    WassailEnemies six = hating(1, 2, 3, 4, 5, 6);
    six.hate(5, 4, 60);
    is("the last: on(0, 49)", six.on(0, 49), 60);
    is("told(0)", x.told(0), 0);
    is("told(4)", x.told(4), 0);
    is("of(0, 11)", x.of(0, 11), 23);
  }

  private static void onNone() {
    WassailEnemies x = hating(50, 50);
    for (int what : new int[] {MIN, MIN + 20, -20, -10, -1, 1, 9, 15, 19, 30, 49, 50, 110, MAX}) {
      is("on(0, " + what + ")", x.on(0, what), NONE);
      is("ahead of BAD: on(61, " + what + ")", x.on(61, what), NONE);
      is("ahead of BAD: on(-1, " + what + ")", x.on(-1, what), NONE);
    }
    is("no HATERS: on(0, 20)", new WassailEnemies().on(0, 20), NONE);
    is("six HATERS: on(0, 50)", hating(0, 0, 0, 0, 0, 0).on(0, 50), NONE);
  }

  private static void onBad() {
    WassailEnemies x = hating(50, 50);
    for (int n : outside(0, 60)) {
      is("on(" + n + ", 0)", x.on(n, 0), BAD);
      is("on(" + n + ", 10)", x.on(n, 10), BAD);
      is("on(" + n + ", 29)", x.on(n, 29), BAD);
    }
    is("on(60, 29)", x.on(60, 29), 50);
  }

  private static void ring() {
    WassailEnemies x = hating(19, 60, 30);
    x.hate(1, 4, 99);
    is("ring(0)", x.ring(0), 2);
    is("ring(1)", x.ring(1), 129);
    int[] row = {0, 2, ABSENT, ABSENT, 1};
    for (int t = 0; t < 5; t++) {
      is("ring(1" + t + ")", x.ring(10 + t), row[t]);
    }
    for (int p = 0; p < 3; p++) {
      x.leave(p, true);
    }
    is("all are GONE: ring(0)", x.ring(0), 0);
    is("all are GONE: ring(1)", x.ring(1), 0);
    is("all are GONE: ring(10)", x.ring(10), ABSENT);
  }

  private static void ringNone() {
    WassailEnemies x = hating(50);
    for (int what : new int[] {MIN, MIN + 10, -10, -1, 2, 9, 15, 20, 100, MAX}) {
      is("ring(" + what + ")", x.ring(what), NO_SUCH);
    }
  }

  private static void turn() {
    WassailEnemies x = hating(19, 20, 23);
    is("turn(4, 1, -1)", x.turn(4, 1, -1), 1);
    is("turn(4, 1, 0)", x.turn(4, 1, 0), 1);
    is("turn(4, 3, -1)", x.turn(4, 3, -1), 3);
    is("turn(4, 3, 0)", x.turn(4, 3, 0), 1);
    is("turn(4, 3, 1)", x.turn(4, 3, 1), 2);
    is("turn(4, 3, 2)", x.turn(4, 3, 2), 2);
  }

  private static void turnFewer() {
    WassailEnemies x = hating(50);
    is("turn(0, 1, 0)", x.turn(0, 1, 0), 0);
    is("turn(0, 1, 1)", x.turn(0, 1, 1), ABSENT);
    is("turn(0, 1, 2)", x.turn(0, 1, 2), ABSENT);
    is("turn(0, 2, 1)", x.turn(0, 2, 1), 0);
    is("turn(0, 2, 2)", x.turn(0, 2, 2), ABSENT);
    is("turn(0, 3, 2)", x.turn(0, 3, 2), 0);
  }

  private static void turnNoHaters() {
    WassailEnemies x = new WassailEnemies();
    for (int n = 1; n <= 3; n++) {
      for (int k = -1; k <= 2; k++) {
        is("turn(0, " + n + ", " + k + ")", x.turn(0, n, k), ABSENT);
      }
    }
    is("behind NONE: turn(5, 1, 0)", x.turn(5, 1, 0), NONE);
    is("behind BAD: turn(0, 4, 0)", x.turn(0, 4, 0), BAD);
    WassailEnemies gone = hating(50);
    gone.leave(0, true);
    is("all are GONE: turn(0, 1, -1)", gone.turn(0, 1, -1), 0);
    is("all are GONE: turn(0, 1, 0)", gone.turn(0, 1, 0), 0);
  }

  private static void turnNone() {
    WassailEnemies x = hating(50);
    for (int tree : outside(0, 4)) {
      is("turn(" + tree + ", 1, 0)", x.turn(tree, 1, 0), NONE);
      is("ahead of BAD: turn(" + tree + ", 0, 0)", x.turn(tree, 0, 0), NONE);
    }
    for (int k : outside(-1, 2)) {
      is("turn(0, 3, " + k + ")", x.turn(0, 3, k), NONE);
      is("ahead of BAD: turn(0, 4, " + k + ")", x.turn(0, 4, k), NONE);
    }
  }

  private static void turnBad() {
    WassailEnemies x = hating(50);
    for (int n : outside(1, 3)) {
      for (int k = -1; k <= 2; k++) {
        is("turn(0, " + n + ", " + k + ")", x.turn(0, n, k), BAD);
      }
    }
  }
}
