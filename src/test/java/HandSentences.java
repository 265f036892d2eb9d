/** Terms, ==== 2: SEEN, ODDS, MEAN, PLANS, BOOKS, THE IMAGE. */
final class HandSentences extends Sentences {
  private HandSentences() {}

  static void all() {
    Doc.part("Terms 2");
    Doc.says("SEEN told by hand: a HATER, a TREE, YEARS n (0 .. 20) from now, whether that BEARS with it then,",
        HandSentences::seenYears);
    Doc.says("HATE being as now", HandSentences::seenHate);
    Doc.says("(5 rows at most).", HandSentences::seenRows);
    Doc.says("HATES of a HATER for a TREE: how many numbers (0 .. 99) there are by which, were that its HATE for it"
        + " now, all of SEEN that is of both is so;", HandSentences::hates);
    Doc.says("the least (-5: none).", HandSentences::hatesLeast);
    Doc.says("CAN of a HATER: how many numbers v (0 .. 9) there are by which, were that its v, all of SEEN that is of"
        + " it is so;", HandSentences::can);
    Doc.says("the least (-5: none).", HandSentences::canLeast);
    Doc.says("ODDS of a TREE: if its LEADER is any HATER, GONE or not, each alike likely: how likely it BEARS this"
        + " YEAR: a fraction in lowest terms", HandSentences::odds);
    Doc.says("(NO: there are none).", HandSentences::oddsOfNone);
    Doc.says("MEAN of a TREE: HATE of all for it, GONE or not, together, by how many they are: likewise.",
        HandSentences::mean);
    Doc.says("A PLAN told by hand: what goes (0 a YEAR, 1 a HATER is GONE, 2 one is not, 3 a TREE has a LEADER, told as"
        + " 10 times the TREE and the HATER, or 9: none,", HandSentences::planRows);
    Doc.says("that one leading nowhere else any more;", HandSentences::planNowhereElse);
    Doc.says("10 rows at most):", HandSentences::planMost);
    Doc.says("ENDS: BORE of all, together; HATE of all for all, together.", HandSentences::ends);
    Doc.says("A BOOK told by hand: TREES, BORE (0 .. 9999; 8 at most):", HandSentences::bookRows);
    Doc.says("LOOKED at: the number of the first of these rows by which it is otherwise now (-5: none).",
        HandSentences::looked);
    Doc.says("THE IMAGE: HATERS, TREES with all that is theirs, YEAR, SEEN, the PLAN, the BOOK, which ORCHARD holds.",
        HandSentences::image);
  }

  private static void hates(String what, WassailEnemies x, int hater, int tree, int many, int least) {
    is(what + ": hates(" + hater + ", " + tree + ", 0)", x.hates(hater, tree, 0), many);
    is(what + ": hates(" + hater + ", " + tree + ", 1)", x.hates(hater, tree, 1), least);
  }

  private static void can(String what, WassailEnemies x, int hater, int many, int least) {
    is(what + ": can(" + hater + ", 0)", x.can(hater, 0), many);
    is(what + ": can(" + hater + ", 1)", x.can(hater, 1), least);
  }

  private static void seenYears() {
    WassailEnemies x = one(GROWLER, 5, 0);
    x.see(0, 0, 2, true);
    hates("in an even YEAR", x, 0, 0, 80, 20);
    x.see(0, 0, 3, false);
    hates("and not in an odd one: 20 .. 39", x, 0, 0, 20, 20);
    x.pass(1);
    hates("a YEAR later even and odd are otherwise", x, 0, 0, 0, ABSENT);
    x.see(-1, 0, 0, false);
    x.see(0, 1, 0, true);
    hates("the half of HATE and 5, now: 35 and more", x, 0, 1, 65, 35);
    x.see(-1, 0, 0, false);
    x.see(0, 1, 20, true);
    hates("the half of HATE and 5, in 20: 35 and more", x, 0, 1, 65, 35);
    for (int n : outside(0, 20)) {
      is("see(0, 0, " + n + ", true)", x.see(0, 0, n, true), BAD);
    }
  }

  /** Were HATE worn by then, 20 would not be enough in 20 YEARS, nor as LEADER. */
  private static void seenHate() {
    WassailEnemies x = hating(50);
    x.lead(3, 0);
    x.see(0, 3, 20, true);
    x.see(0, 3, 1, true);
    hates("20 is enough", x, 0, 3, 80, 20);
    WassailEnemies y = one(UNCLE, 9, 15);
    y.lead(3, 0);
    y.see(0, 3, 20, true);
    can("15 and 5 are enough", y, 0, 5, 5);
  }

  private static void seenRows() {
    WassailEnemies x = hating(50);
    for (int i = 1; i <= 5; i++) {
      is("see", x.see(0, 4, i, true), i);
    }
    is("a sixth", x.see(0, 3, 0, true), FULL);
    is("count(2)", x.count(2), 5);
    hates("the sixth did not come", x, 0, 3, 100, 0);
  }

  private static void hates() {
    WassailEnemies x = under("cold 30 h>6");
    x.hater(HATER, 0, 0);
    x.hater(LAD, 0, 0);
    hates("nothing is SEEN", x, 0, 0, 100, 0);
    x.see(0, 0, 0, true);
    x.see(0, 1, 0, false);
    x.see(1, 0, 0, false);
    hates("20 .. 99, 70 .. 99 less 30", x, 0, 0, 80, 20);
    hates("of that TREE alone", x, 0, 1, 20, 0);
    hates("of that HATER alone", x, 1, 0, 20, 0);
    hates("of neither", x, 1, 1, 100, 0);
    Due.orchard(x, "cold 60 h>6");
    hates("70 .. 79 less 60 are below 20", x, 0, 0, 70, 20);
    Due.orchard(x, "need 99");
    hates("99 alone", x, 0, 0, 1, 99);
    Due.orchard(x, "need 0");
    hates("0 .. 99", x, 0, 0, 100, 0);
    is("asking changes nothing: of(0, 10)", x.of(0, 10), 0);
  }

  private static void hatesLeast() {
    WassailEnemies x = hating(50);
    x.see(0, 3, 0, true);
    hates("20 and more", x, 0, 3, 80, 20);
    x.leave(0, true);
    hates("GONE, so it never bears", x, 0, 3, 0, ABSENT);
    x.leave(0, false);
    x.see(0, 3, 7, false);
    hates("both ways", x, 0, 3, 0, ABSENT);
    x.see(-1, 0, 0, false);
    x.see(0, 3, 0, false);
    hates("below 20", x, 0, 3, 20, 0);
  }

  private static void can() {
    WassailEnemies x = one(UNCLE, 9, 15);
    x.hater(HATER, 0, 15);
    can("nothing is SEEN", x, 0, 10, 0);
    x.see(0, 3, 5, true);
    can("15 and v are 20", x, 0, 5, 5);
    can("another is not meant", x, 1, 10, 0);
    x.hate(0, 1, 12);
    x.see(0, 1, 0, false);
    can("and 12 and v are not: all TREES count", x, 0, 3, 5);
    x.see(1, 1, 0, true);
    can("v does not count for a HATER", x, 1, 0, ABSENT);
    Due.orchard(x, "hot 5 v=2|v=4");
    can("but by a TEST: 2 and 4", x, 1, 2, 2);
    is("asking changes nothing: of(0, 1)", x.of(0, 1), 9);
    is("asking changes nothing: of(0, 23)", x.of(0, 23), 24);
  }

  private static void canLeast() {
    WassailEnemies x = one(GROWLER, 0, 31);
    x.see(0, 1, 1, true);
    can("the half of 31 and 9 is 20", x, 0, 1, 9);
    x.leave(0, true);
    can("GONE, so it never bears", x, 0, 0, ABSENT);
    x.leave(0, false);
    x.hate(0, 1, 30);
    can("the half of 39 is 19", x, 0, 0, ABSENT);
    x.hate(0, 1, 40);
    can("the half of 40 is 20", x, 0, 10, 0);
  }

  private static void fraction(String what, long above, long below, long wantAbove, long wantBelow) {
    is(what + ", above", above, wantAbove);
    is(what + ", below", below, wantBelow);
  }

  private static void odds() {
    WassailEnemies x = hating(10);
    fraction("0 of 1", x.odds(2, 0), x.odds(2, 1), 0, 1);
    x.hater(HATER, 0, 20);
    fraction("1 of 2", x.odds(2, 0), x.odds(2, 1), 1, 2);
    x.hater(HATER, 0, 19);
    x.hater(HATER, 0, 99);
    fraction("2 of 4", x.odds(2, 0), x.odds(2, 1), 1, 2);
    x.hater(HATER, 0, 99);
    x.hater(GROWLER, 0, 38);
    fraction("4 of 6", x.odds(2, 0), x.odds(2, 1), 2, 3);
    x.leave(4, true);
    fraction("3 of 6, one is GONE", x.odds(2, 0), x.odds(2, 1), 1, 2);
    x.hate(0, 2, 50);
    x.hate(2, 2, 50);
    fraction("5 of 6", x.odds(2, 0), x.odds(2, 1), 5, 6);
    x.leave(4, false);
    fraction("6 of 6", x.odds(2, 0), x.odds(2, 1), 1, 1);
    fraction("4 of 6 at another", x.odds(4, 0), x.odds(4, 1), 2, 3);
    x.pass(1);
    fraction("5 of 6 in an odd YEAR", x.odds(2, 0), x.odds(2, 1), 5, 6);
    for (int p = 0; p < 6; p++) {
      x.leave(p, true);
    }
    fraction("0 of 6", x.odds(2, 0), x.odds(2, 1), 0, 1);
  }

  private static void oddsOfNone() {
    WassailEnemies x = new WassailEnemies();
    is("odds(0, 0)", x.odds(0, 0), NO);
    is("odds(0, 1)", x.odds(0, 1), NO);
    is("mean(0, 0)", x.mean(0, 0), NO);
    is("mean(0, 1)", x.mean(0, 1), NO);
  }

  private static void mean() {
    WassailEnemies x = hating(0);
    fraction("0 by 1", x.mean(1, 0), x.mean(1, 1), 0, 1);
    x.hater(HATER, 0, 99);
    fraction("99 by 2", x.mean(1, 0), x.mean(1, 1), 99, 2);
    x.hater(LOVER, 9, 21);
    fraction("120 by 3", x.mean(1, 0), x.mean(1, 1), 40, 1);
    x.leave(1, true);
    fraction("GONE or not", x.mean(1, 0), x.mean(1, 1), 40, 1);
    x.hater(HATER, 0, 2);
    fraction("122 by 4", x.mean(1, 0), x.mean(1, 1), 61, 2);
    x.hate(3, 2, 1);
    fraction("121 by 4 at another", x.mean(2, 0), x.mean(2, 1), 121, 4);
    x.hater(HATER, 0, 0);
    x.hater(HATER, 0, 6);
    fraction("128 by 6", x.mean(1, 0), x.mean(1, 1), 64, 3);
    x.hate(4, 1, 1);
    fraction("129 by 6", x.mean(1, 0), x.mean(1, 1), 43, 2);
    x.hate(4, 1, 4);
    fraction("132 by 6", x.mean(1, 0), x.mean(1, 1), 22, 1);
    for (int p = 0; p < 6; p++) {
      x.hate(p, 0, 99);
      x.hate(p, 4, 0);
    }
    fraction("594 by 6", x.mean(0, 0), x.mean(0, 1), 99, 1);
    fraction("0 by 6", x.mean(4, 0), x.mean(4, 1), 0, 1);
  }

  private static void ends(String what, WassailEnemies x, int bore, int hate) {
    is(what + ": ends(0)", x.ends(0), bore);
    is(what + ": ends(1)", x.ends(1), hate);
  }

  private static void planRows() {
    WassailEnemies x = hating(50, 30);
    x.lead(0, 0);
    x.plan(0, 0);
    ends("a YEAR", x, 1, 397);
    x.plan(1, 0);
    x.plan(0, 0);
    ends("a YEAR with 0 GONE", x, 1, 397);
    x.plan(2, 0);
    x.plan(0, 0);
    ends("a YEAR with 0 there again", x, 2, 394);
    x.plan(3, 41);
    x.plan(0, 0);
    ends("a YEAR with 1 at 4, too", x, 4, 388);
    x.plan(3, 9);
    x.plan(0, 0);
    ends("a YEAR with nobody at 0", x, 5, 385);
    is("told(20)", x.told(20), 0);
    is("told(24)", x.told(24), ABSENT);
    is("of(0, 2)", x.of(0, 2), 0);
  }

  private static void planNowhereElse() {
    WassailEnemies x = hating(90, 10);
    x.lead(2, 0);
    x.plan(3, 30);
    x.plan(0, 0);
    ends("leads at 3, and at 2 no more", x, 1, 497);
    x.plan(3, 31);
    x.plan(0, 0);
    ends("10 in the place of 90", x, 1, 497);
    x.plan(3, 49);
    x.plan(3, 0);
    x.plan(0, 0);
    ends("at 0", x, 2, 494);
    is("told(22)", x.told(22), 0);
    is("told(23)", x.told(23), ABSENT);
  }

  private static void planMost() {
    WassailEnemies x = hating(99);
    x.lead(0, 0);
    for (int i = 1; i <= 10; i++) {
      is("plan(0, 0)", x.plan(0, 0), i);
    }
    is("an eleventh", x.plan(0, 0), FULL);
    is("count(3)", x.count(3), 10);
    ends("ten YEARS", x, 10, 495 - 30);
  }

  private static void ends() {
    WassailEnemies x = new WassailEnemies();
    ends("no HATERS", x, 0, 0);
    x.hater(HATER, 0, 50);
    x.hater(LOVER, 0, 30);
    ends("no PLAN", x, 0, 400);
    x.lead(0, 0);
    x.lead(4, 1);
    x.pass(1);
    ends("no PLAN", x, 2, 394);
    x.plan(0, 0);
    ends("a YEAR", x, 4, 388);
    x.leave(0, true);
    ends("GONE or not", x, 3, 391);
    WassailEnemies back = hating(1);
    back.image();
    back.hater(HATER, 0, 50);
    back.undo();
    ends("one who came behind THE IMAGE does not count", back, 0, 5);
  }

  private static void bookRows() {
    WassailEnemies x = new WassailEnemies();
    for (int tree : outside(-1, 4)) {
      is("book(" + tree + ", 0)", x.book(tree, 0), NONE);
    }
    for (int bore : outside(0, 9999)) {
      is("book(0, " + bore + ")", x.book(0, bore), BAD);
    }
    for (int i = 1; i <= 8; i++) {
      is("book", x.book(i % 5, i == 8 ? 9999 : 0), i);
    }
    is("a ninth", x.book(0, 9999), FULL);
    is("count(4)", x.count(4), 8);
    is("the eighth: looked()", x.looked(), 7);
  }

  private static void looked() {
    WassailEnemies x = hating(50);
    is("no rows: looked()", x.looked(), ABSENT);
    x.lead(3, 0);
    x.pass(2);
    x.book(3, 2);
    x.book(2, 0);
    is("all are so: looked()", x.looked(), ABSENT);
    x.book(3, 3);
    x.book(2, 1);
    is("3 has not 3: looked()", x.looked(), 2);
    x.pass(1);
    is("3 has not 2 now: looked()", x.looked(), 0);
  }

  private static void image() {
    WassailEnemies x = one(TOLD, 3, 40);
    x.hater(HATER, 0, 50);
    Due.orchard(x, "need 30");
    x.row(0, 1, 7);
    x.lead(2, 1);
    x.pass(1);
    x.see(1, 0, 0, true);
    x.plan(0, 0);
    x.book(2, 1);
    x.image();
    x.hater(UNCLE, 1, 1);
    x.leave(0, true);
    x.hate(1, 2, 1);
    x.row(0, 1, 0);
    x.lead(2, -1);
    x.lead(4, 0);
    x.pass(1);
    x.see(-1, 0, 0, true);
    x.plan(0, 0);
    x.plan(0, 0);
    x.book(-1, 0);
    Due.orchard(x, "need 40");
    is("undo()", x.undo(), 2);
    is("HATERS: count(0)", x.count(0), 2);
    is("GONE: of(0, 2)", x.of(0, 2), 0);
    is("HATE: of(1, 12)", x.of(1, 12), 47);
    is("ROW: of(0, 20)", x.of(0, 20), 17);
    is("LEADER: told(22)", x.told(22), 1);
    is("LEADER: told(24)", x.told(24), ABSENT);
    bore(x, 0, 0, 1, 0, 0);
    is("YEAR: told(0)", x.told(0), 1);
    is("SEEN: hates(1, 0, 1)", x.hates(1, 0, 1), 30);
    is("PLAN: ends(0)", x.ends(0), 2);
    is("BOOK: count(4)", x.count(4), 1);
    is("which ORCHARD holds: told(1)", x.told(1), 30);
    is("not how many there are: count(1)", x.count(1), 2);
  }
}
