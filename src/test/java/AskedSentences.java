/** Terms, ==== 2: ON, LASTS, RING, TURNS, WORST. */
final class AskedSentences extends Sentences {
  private AskedSentences() {}

  static void all() {
    Doc.part("Terms 2");
    asked();
    rings();
  }

  private static void asked() {
    Doc.says("All that follows is asked, goes on from how all is (YEARS, BORE beyond 9999, too), and changes nothing.",
        AskedSentences::beyond9999);
    Doc.says("All that follows is asked, goes on from how all is (YEARS, BORE beyond 9999, too), and changes nothing.",
        AskedSentences::goesOnFromNow);
    Doc.says("ON n YEARS (0 .. 60):", AskedSentences::onBounds);
    Doc.says("BORE of a TREE; HATE of a HATER for a TREE;", AskedSentences::onBoreAndHate);
    Doc.says("which BEAR in the YEAR then (bits, with their LEADERS).", AskedSentences::onBits);
    Doc.says("LASTS of a HATER at a TREE: in how many YEARS from this one on,", AskedSentences::lastsFromThisOne);
    Doc.says("one behind the other, it BEARS with that,", AskedSentences::lastsOneBehindTheOther);
    Doc.says("were it its LEADER all the time", AskedSentences::lastsWhoeverLeads);
    Doc.says("(60 at most).", AskedSentences::lastsAtMost);
  }

  private static void rings() {
    Doc.says("RING: of all ways to give each TREE one HATER who is not GONE, or none, nobody twice,",
        AskedSentences::ringWays);
    Doc.says("that by which most BEAR this YEAR,", AskedSentences::ringMost);
    Doc.says("of these that by which the FORCE of those with whom they BEAR, together, is greatest",
        AskedSentences::ringGreatest);
    Doc.says("(of several the first as a row by TREES of HATERS, none being 9 there):", AskedSentences::ringFirst);
    Doc.says("how many BEAR; that FORCE; who has TREE t (-5: none).", AskedSentences::ringAnswers);
    Doc.says("TURNS of a TREE and n YEARS (1 .. 3):", AskedSentences::turnBounds);
    Doc.says("of all rows of n HATERS, GONE or not, one each YEAR from this one on as its LEADER,",
        AskedSentences::turnRows);
    Doc.says("that by which it BEARS in most YEARS (of several the first as a row):", AskedSentences::turnFirst);
    Doc.says("in how many; the k-th.", AskedSentences::turnAnswers);
    Doc.says("WORST: the HATER, not GONE, without whom RING has fewest BEAR", AskedSentences::worst);
    Doc.says("(of several the first; -5: all are GONE);", AskedSentences::worstOfSeveral);
    Doc.says("how many BEAR then.", AskedSentences::worstHowMany);
  }

  // ---- asked, YEARS

  private static void beyond9999() {
    WassailEnemies x = under("wear 0");
    x.hater(HATER, 0, 60);
    x.lead(2, 0);
    passTo9999(x);
    Due.orchard(x, "wear 0;cold 50 y=1");
    is("told(12)", x.told(12), 9999);
    is("on(60, 12)", x.on(60, 12), 10059 - 6);
    is("on(1, 12)", x.on(1, 12), 10000);
    is("in YEAR 10001: on(2, 0)", x.on(2, 0), 0);
    is("in YEAR 10002: on(3, 0)", x.on(3, 0), 4);
    is("in 9999 and 10000: of(0, 32)", x.of(0, 32), 2);
    is("in 9999, 10000, not in 10001: turn(2, 3, -1)", x.turn(2, 3, -1), 2);
    x.see(0, 2, 2, false);
    is("seen in YEAR 10001: hates(0, 2, 0)", x.hates(0, 2, 0), 70);
    for (int i = 0; i < 4; i++) {
      x.plan(0, 0);
    }
    is("9999, 10000, 10002: ends(0)", x.ends(0), 9999 + 3);
    is("told(12)", x.told(12), 9999);
    is("told(0)", x.told(0), 9999);
  }

  private static void goesOnFromNow() {
    WassailEnemies x = hating(50, 30);
    x.lead(0, 0);
    x.lead(1, 1);
    x.pass(3);
    is("on(2, 10)", x.on(2, 10), 5);
    is("on(2, 20)", x.on(2, 20), 35);
    is("on(2, 26)", x.on(2, 26), 18);
    is("21 and 18: of(1, 31)", x.of(1, 31), 1);
    x.hate(1, 1, 99);
    is("on(2, 26)", x.on(2, 26), 93);
    is("told(0)", x.told(0), 3);
    is("told(4)", x.told(4), 6);
    is("of(0, 10)", x.of(0, 10), 41);
  }

  /** HATERS who lead at 0, 1, 2: a HATER of 24, a LOVER of 33, a FELLER of 52. */
  private static WassailEnemies three() {
    WassailEnemies x = one(HATER, 0, 24);
    x.hater(LOVER, 0, 33);
    x.hater(FELLER, 0, 52);
    x.lead(0, 0);
    x.lead(1, 1);
    x.lead(2, 2);
    return x;
  }

  private static void onBounds() {
    WassailEnemies x = three();
    for (int n : outside(0, 60)) {
      is("on(" + n + ", 0)", x.on(n, 0), BAD);
      is("on(" + n + ", 14)", x.on(n, 14), BAD);
      is("on(" + n + ", 34)", x.on(n, 34), BAD);
    }
    is("on(0, 12)", x.on(0, 12), 0);
    is("on(0, 32)", x.on(0, 32), 52);
    is("0 .. 8, 10 and 11: on(60, 12)", x.on(60, 12), 11);
    is("on(60, 32)", x.on(60, 32), 19);
    is("on(60, 0)", x.on(60, 0), 0);
  }

  private static void onBoreAndHate() {
    WassailEnemies x = three();
    int[] bore = {2, 0, 2, 0, 0};
    x.pass(1);
    for (int t = 0; t < 5; t++) {
      is("on(1, 1" + t + ")", x.on(1, 10 + t), bore[t]);
    }
    int[][] hate = {{18, 24, 24, 24, 24}, {33, 33, 33, 33, 33}, {52, 52, 46, 52, 52}};
    for (int p = 0; p < 3; p++) {
      for (int t = 0; t < 5; t++) {
        is("on(1, " + (20 + 5 * p + t) + ")", x.on(1, 20 + 5 * p + t), hate[p][t]);
      }
    }
    x.pass(5);
    WassailEnemies y = three();
    for (int t = 0; t < 5; t++) {
      is("on(6, 1t) is told(1t) then", y.on(6, 10 + t), x.told(10 + t));
      is("on(6, 30 + t) is of(2, 1t) then", y.on(6, 30 + t), x.of(2, 10 + t));
    }
  }

  private static void onBits() {
    WassailEnemies x = three();
    is("24, 17, 104: on(0, 0)", x.on(0, 0), 5);
    is("21, 17, 48: on(1, 0)", x.on(1, 0), 5);
    is("18: on(2, 0)", x.on(2, 0), 4);
    x.lead(3, 2);
    is("52 at 3: on(1, 0)", x.on(1, 0), 9);
    x.leave(0, true);
    is("0 is GONE: on(1, 0)", x.on(1, 0), 8);
  }

  private static void lastsFromThisOne() {
    WassailEnemies x = hating(20, 19, 29);
    is("20: of(0, 30)", x.of(0, 30), 1);
    is("19, not in this one: of(1, 30)", x.of(1, 30), 0);
    is("29, 26, 23, 20: of(2, 30)", x.of(2, 30), 4);
    x.hater(GROWLER, 9, 41);
    is("50, 23, 44, 20, 38, 17: of(3, 31)", x.of(3, 31), 5);
    x.pass(1);
    is("25, 47, 22, 41, 19: of(3, 31)", x.of(3, 31), 4);
    x.leave(2, true);
    is("GONE: of(2, 30)", x.of(2, 30), 0);
  }

  private static void lastsOneBehindTheOther() {
    WassailEnemies x = one(GROWLER, 0, 39);
    is("39, then 18, though 36 then: of(0, 30)", x.of(0, 30), 1);
    x.pass(1);
    is("19, though 39 then: of(0, 30)", x.of(0, 30), 0);
    WassailEnemies told = one(TOLD, 0, 32);
    told.row(0, 0, 2);
    told.row(0, 2, 9);
    is("20, then more and more: of(0, 30)", told.of(0, 30), 60);
    told.hate(0, 0, 33);
    is("19, though 26 in YEAR 2: of(0, 30)", told.of(0, 30), 0);
  }

  private static void lastsWhoeverLeads() {
    WassailEnemies x = hating(29, 99);
    is("nobody leads: of(0, 32)", x.of(0, 32), 4);
    x.lead(2, 1);
    is("another leads there: of(0, 32)", x.of(0, 32), 4);
    x.lead(4, 0);
    is("leads elsewhere: of(0, 32)", x.of(0, 32), 4);
    is("still leads elsewhere: told(24)", x.told(24), 0);
    is("another still leads there: told(22)", x.told(22), 1);
  }

  private static void lastsAtMost() {
    WassailEnemies x = under("wear 1");
    x.hater(HATER, 0, 78);
    x.hater(HATER, 0, 79);
    x.hater(HATER, 0, 80);
    is("78 .. 20: of(0, 30)", x.of(0, 30), 59);
    is("79 .. 20: of(1, 30)", x.of(1, 30), 60);
    is("80 .. 20 would be 61: of(2, 30)", x.of(2, 30), 60);
    x.hater(LOVER, 0, 30);
    is("stronger each YEAR: of(3, 30)", x.of(3, 30), 60);
  }

  // ---- RINGS, TURNS, WORST

  private static void ring(String what, WassailEnemies x, int bearing, int force, int... row) {
    is(what + ": ring(0)", x.ring(0), bearing);
    is(what + ": ring(1)", x.ring(1), force);
    for (int t = 0; t < 5; t++) {
      is(what + ": ring(1" + t + ")", x.ring(10 + t), row[t]);
    }
  }

  private static void ringWays() {
    WassailEnemies x = hating(0, 50, 60);
    ring("nobody twice", x, 2, 110, 0, 1, 2, ABSENT, ABSENT);
    x.leave(1, true);
    ring("1 is GONE", x, 1, 60, 0, 2, ABSENT, ABSENT, ABSENT);
    x.leave(0, true);
    x.leave(2, true);
    ring("all are GONE", x, 0, 0, ABSENT, ABSENT, ABSENT, ABSENT, ABSENT);
    x.leave(1, false);
    x.lead(3, 1);
    ring("who leads does not matter", x, 1, 50, 1, ABSENT, ABSENT, ABSENT, ABSENT);
    ring("six for five TREES", hating(20, 21, 22, 23, 24, 25), 5, 115, 1, 2, 3, 4, 5);
  }

  private static void ringMost() {
    WassailEnemies x = hating(0, 0);
    x.hate(0, 0, 99);
    x.hate(0, 4, 20);
    x.hate(1, 0, 20);
    ring("two of 20 are more than one of 99", x, 2, 40, 1, ABSENT, ABSENT, ABSENT, 0);
    x.hate(1, 0, 19);
    ring("else 99", x, 1, 99, 0, 1, ABSENT, ABSENT, ABSENT);
    WassailEnemies growler = one(GROWLER, 0, 30);
    ring("whole in an even YEAR", growler, 1, 30, 0, ABSENT, ABSENT, ABSENT, ABSENT);
    growler.pass(1);
    ring("15 in an odd one", growler, 0, 0, 0, ABSENT, ABSENT, ABSENT, ABSENT);
  }

  private static void ringGreatest() {
    WassailEnemies x = hating(30, 30);
    x.hate(0, 1, 31);
    ring("31 at 1", x, 2, 61, 1, 0, ABSENT, ABSENT, ABSENT);
    x.hate(1, 3, 90);
    ring("90 at 3", x, 2, 121, ABSENT, 0, ABSENT, 1, ABSENT);
    WassailEnemies y = under("cold 50 p=1;need 0");
    y.hater(HATER, 0, 0);
    y.hater(HATER, 0, 40);
    ring("0 bears, -10 does not, nor counts", y, 1, 0, 0, 1, ABSENT, ABSENT, ABSENT);
    WassailEnemies z = hating(19, 20, 0);
    ring("19 does not count", z, 1, 20, 0, 1, 2, ABSENT, ABSENT);
    WassailEnemies most = under("hot 99 p<9" + ";hot 99 p<9".repeat(8));
    for (int p = 0; p < 6; p++) {
      most.hater(LAD, 0, 99);
    }
    ring("the most that there can be", most, 5, 5 * 1980, 0, 1, 2, 3, 4);
  }

  private static void ringFirst() {
    WassailEnemies x = hating(0);
    ring("one who bears nowhere is ahead of none", x, 0, 0, 0, ABSENT, ABSENT, ABSENT, ABSENT);
    x.hater(HATER, 0, 0);
    x.hater(HATER, 0, 0);
    ring("three who bear nowhere", x, 0, 0, 0, 1, 2, ABSENT, ABSENT);
    x.hate(0, 2, 20);
    ring("the first bears at 2", x, 1, 20, 1, 2, 0, ABSENT, ABSENT);
    x.hate(1, 0, 20);
    x.hate(2, 0, 20);
    ring("either bears at 0", x, 2, 40, 1, 2, 0, ABSENT, ABSENT);
    x.hate(0, 4, 20);
    ring("the first at 2 or at 4", x, 2, 40, 1, 2, 0, ABSENT, ABSENT);
  }

  private static void ringAnswers() {
    WassailEnemies x = hating(30, 25);
    is("ring(0)", x.ring(0), 2);
    is("ring(1)", x.ring(1), 55);
    is("ring(10)", x.ring(10), 0);
    is("ring(11)", x.ring(11), 1);
    is("ring(12)", x.ring(12), ABSENT);
    ring("no HATERS", new WassailEnemies(), 0, 0, ABSENT, ABSENT, ABSENT, ABSENT, ABSENT);
  }

  private static void turns(String what, WassailEnemies x, int tree, int most, int... row) {
    is(what + ": turn(" + tree + ", " + row.length + ", -1)", x.turn(tree, row.length, -1), most);
    for (int k = 0; k < 3; k++) {
      int due = k < row.length ? row[k] : ABSENT;
      is(what + ": turn(" + tree + ", " + row.length + ", " + k + ")", x.turn(tree, row.length, k), due);
    }
  }

  private static void turnBounds() {
    WassailEnemies x = hating(50);
    for (int n : outside(1, 3)) {
      is("turn(0, " + n + ", -1)", x.turn(0, n, -1), BAD);
    }
    for (int n = 1; n <= 3; n++) {
      is("turn(0, " + n + ", -1)", x.turn(0, n, -1), n);
    }
  }

  private static void turnRows() {
    WassailEnemies x = hating(0, 20, 23);
    turns("1 once, 2 twice", x, 2, 3, 1, 2, 2);
    x.leave(2, true);
    turns("2 is GONE: in a row, but does not bear", x, 2, 1, 0, 0, 1);
    x.leave(1, true);
    turns("both are GONE", x, 2, 0, 0, 0, 0);
    WassailEnemies y = one(GROWLER, 0, 30);
    y.hater(HATER, 0, 20);
    turns("GROWLER, HATER, GROWLER", y, 0, 3, 0, 1, 0);
    y.lead(0, 1);
    y.lead(3, 0);
    turns("who leads does not matter", y, 0, 3, 0, 1, 0);
    y.pass(1);
    y.hate(1, 0, 23);
    turns("HATER, GROWLER, HATER", y, 0, 3, 1, 0, 1);
  }

  private static void turnFirst() {
    WassailEnemies x = hating(0, 0, 0);
    turns("none bears", x, 2, 0, 0, 0, 0);
    turns("none bears", x, 2, 0, 0);
    x.hate(1, 2, 20);
    turns("1 bears once", x, 2, 1, 0, 0, 1);
    turns("1 bears once", x, 2, 1, 0, 1);
    turns("1 bears once", x, 2, 1, 1);
    turns("at another TREE none does", x, 1, 0, 0, 0, 0);
    WassailEnemies y = one(GROWLER, 0, 30);
    y.hater(HATER, 0, 20);
    y.pass(1);
    turns("two of three", y, 0, 2, 0, 0, 1);
    WassailEnemies six = hating(0, 0, 0, 0, 0, 26);
    turns("the last of 216 rows", six, 4, 3, 5, 5, 5);
  }

  private static void turnAnswers() {
    WassailEnemies x = hating(20, 23);
    is("turn(0, 3, -1)", x.turn(0, 3, -1), 3);
    is("turn(0, 3, 0)", x.turn(0, 3, 0), 0);
    is("turn(0, 3, 1)", x.turn(0, 3, 1), 1);
    is("turn(0, 3, 2)", x.turn(0, 3, 2), 1);
    is("turn(0, 2, 2)", x.turn(0, 2, 2), ABSENT);
    is("asking changes nothing: of(1, 10)", x.of(1, 10), 23);
    is("asking changes nothing: told(0)", x.told(0), 0);
    is("asking changes nothing: told(20)", x.told(20), ABSENT);
  }

  private static void worst(String what, WassailEnemies x, int who, int bearing) {
    is(what + ": told(5)", x.told(5), who);
    is(what + ": told(6)", x.told(6), bearing);
  }

  private static void worst() {
    WassailEnemies x = hating(10, 10, 10);
    x.hate(1, 3, 40);
    worst("only 1 bears", x, 1, 0);
    x.hate(0, 3, 90);
    x.hate(2, 0, 20);
    worst("only 2 bears at 0, either at 3", x, 2, 1);
    x.leave(2, true);
    worst("2 is GONE", x, 0, 1);
    x.leave(0, true);
    worst("only 1 is there", x, 1, 0);
  }

  private static void worstOfSeveral() {
    WassailEnemies x = hating(10, 10);
    worst("none bears", x, 0, 0);
    x.hate(0, 3, 20);
    x.hate(1, 3, 20);
    worst("either bears", x, 0, 1);
    x.leave(0, true);
    worst("one is there", x, 1, 0);
    x.leave(1, true);
    worst("all are GONE", x, ABSENT, ABSENT);
    worst("no HATERS", new WassailEnemies(), ABSENT, ABSENT);
  }

  private static void worstHowMany() {
    WassailEnemies x = hating(50, 50, 50, 50, 50, 50);
    worst("five bear without any", x, 0, 5);
    x.leave(0, true);
    worst("four of five", x, 1, 4);
    WassailEnemies y = hating(50, 50, 19);
    worst("one of two", y, 0, 1);
  }
}
