/** Terms, ==== 1, but for THE TEXT: TREES, HATERS, SUM, FORCE, what BEARS, how a YEAR goes. */
final class Terms1Sentences extends Sentences {
  private Terms1Sentences() {}

  static void all() {
    Doc.part("Terms 1");
    Doc.says("TREES 0 .. 4,", Terms1Sentences::trees);
    Doc.says("each with BORE (how often, 0 .. 9999; 0 at first)", Terms1Sentences::boreAtFirst);
    Doc.says("each with BORE (how often, 0 .. 9999; 0 at first)", Terms1Sentences::boreAtMost);
    Doc.says("and a LEADER, or none (at first).", Terms1Sentences::leader);
    Doc.says("HATERS 0 .. 5, as they come,", Terms1Sentences::haters);
    Doc.says("are of KINDS: 0 HATER; 1 UNCLE, 2 LAD, 3 LOVER under HATER; 4 GROWLER under UNCLE; 5 FELLER under LAD;"
        + " 6 TOLD under LOVER;", Terms1Sentences::kinds);
    Doc.says("with a number v (0 .. 9),", Terms1Sentences::v);
    Doc.says("a HATE for each TREE (0 .. 99),", Terms1Sentences::hate);
    Doc.says("GONE, or not (not at first).", Terms1Sentences::gone);
    Doc.says("YEAR: 0 at first.", Terms1Sentences::yearAtFirst);
    Doc.says("Nobody is LEADER of two TREES.", Terms1Sentences::nobodyLeadsTwo);
    forces();
    years();
  }

  private static void forces() {
    Doc.says("SUM of a HATER at a TREE: HATE, and the n of all hot whose E holds, less those of all cold, together"
        + " (may be below 0).", Terms1Sentences::sum);
    Doc.says("FORCE of a HATER at a TREE (may be below 0): HATER: SUM.", Terms1Sentences::forceOfHater);
    Doc.says("UNCLE: SUM, and v, if the number of the TREE is odd.", Terms1Sentences::forceOfUncle);
    Doc.says("LAD: SUM; twice that, if HATE is 50 or more.", Terms1Sentences::forceOfLad);
    Doc.says("LOVER: 50 less SUM.", Terms1Sentences::forceOfLover);
    Doc.says("GROWLER: as UNCLE; the half (cut toward 0) of that, if YEAR is odd.", Terms1Sentences::forceOfGrowler);
    Doc.says("FELLER: as LAD, less YEAR modulo 10.", Terms1Sentences::forceOfFeller);
    Doc.says("TOLD: as LOVER, and its ROW (four numbers 0 .. 9; 0 at first) at YEAR modulo 4 more.",
        Terms1Sentences::forceOfTold);
  }

  private static void years() {
    Doc.says("A TREE BEARS with a HATER, if that is not GONE and its FORCE there is NEED or more.",
        Terms1Sentences::bears);
    Doc.says("A YEAR goes, by how all is ahead of it:", Terms1Sentences::aheadOfIt);
    Doc.says("of each TREE that BEARS with its LEADER BORE is 1 more (9999 at most),", Terms1Sentences::oneMore);
    Doc.says("of each TREE that BEARS with its LEADER BORE is 1 more (9999 at most),", Terms1Sentences::boreAtMost);
    Doc.says("and the LEADER's HATE for it WEAR less (0 at least).", Terms1Sentences::wearLess);
    Doc.says("YEAR is 1 more.", Terms1Sentences::yearMore);
  }

  private static void trees() {
    WassailEnemies x = hating(50);
    is("lead(0, 0)", x.lead(0, 0), ABSENT);
    is("lead(4, 0)", x.lead(4, 0), ABSENT);
    for (int tree : outside(0, 4)) {
      is("lead(" + tree + ", 0)", x.lead(tree, 0), NONE);
    }
  }

  private static void boreAtFirst() {
    bore(new WassailEnemies(), 0, 0, 0, 0, 0);
  }

  private static void boreAtMost() {
    WassailEnemies x = under("need 0;wear 0");
    x.hater(HATER, 0, 0);
    x.lead(2, 0);
    passTo9999(x);
    bore(x, 0, 0, 9999, 0, 0);
    is("pass(1)", x.pass(1), STATE);
    bore(x, 0, 0, 9999, 0, 0);
  }

  private static void leader() {
    WassailEnemies x = hating(50);
    for (int t = 0; t < 5; t++) {
      is("at first: told(2" + t + ")", x.told(20 + t), ABSENT);
    }
    x.lead(3, 0);
    is("told(23)", x.told(23), 0);
    x.lead(3, -1);
    is("none again: told(23)", x.told(23), ABSENT);
  }

  private static void haters() {
    WassailEnemies x = new WassailEnemies();
    for (int i = 0; i < 6; i++) {
      is("of(" + i + ", 1) ahead of it", x.of(i, 1), NO_SUCH);
      is("the next hater()", x.hater(HATER, i, 0), i);
      is("of(" + i + ", 1)", x.of(i, 1), i);
    }
    for (int hater : outside(0, 5)) {
      is("of(" + hater + ", 1)", x.of(hater, 1), NO_SUCH);
    }
  }

  private static void kinds() {
    for (int kind = HATER; kind <= TOLD; kind++) {
      WassailEnemies x = one(kind, 0, 0);
      boolean[] is = new boolean[7];
      for (int k = kind; k >= 0; k = ABOVE[k]) {
        is[k] = true;
      }
      for (int k = HATER; k <= TOLD; k++) {
        is("KIND " + kind + ": taken(0, " + k + ")", x.taken(0, k), is[k] ? kind : CAST);
      }
    }
  }

  private static void v() {
    for (int v = 0; v <= 9; v++) {
      is("of(0, 1)", one(UNCLE, v, 0).of(0, 1), v);
    }
    for (int v : outside(0, 9)) {
      is("hater(1, " + v + ", 0)", new WassailEnemies().hater(UNCLE, v, 0), BAD);
    }
  }

  private static void hate() {
    WassailEnemies x = hating(0, 99);
    int[] own = {0, 99, 7, 50, 98};
    for (int t = 0; t < 5; t++) {
      is("as it came: of(0, 1" + t + ")", x.of(0, 10 + t), 0);
      is("as it came: of(1, 1" + t + ")", x.of(1, 10 + t), 99);
      x.hate(0, t, own[t]);
    }
    for (int t = 0; t < 5; t++) {
      is("its own for each TREE: of(0, 1" + t + ")", x.of(0, 10 + t), own[t]);
      is("another's stays: of(1, 1" + t + ")", x.of(1, 10 + t), 99);
    }
    for (int hate : outside(0, 99)) {
      is("hater(0, 0, " + hate + ")", x.hater(HATER, 0, hate), BAD);
      is("hate(0, 0, " + hate + ")", x.hate(0, 0, hate), BAD);
    }
  }

  private static void gone() {
    WassailEnemies x = hating(50, 50);
    is("at first: of(0, 2)", x.of(0, 2), 0);
    x.leave(0, true);
    is("of(0, 2)", x.of(0, 2), 1);
    is("another is not: of(1, 2)", x.of(1, 2), 0);
    x.leave(0, false);
    is("of(0, 2)", x.of(0, 2), 0);
  }

  private static void yearAtFirst() {
    is("told(0)", new WassailEnemies().told(0), 0);
  }

  private static void nobodyLeadsTwo() {
    WassailEnemies x = hating(50, 50);
    x.lead(1, 0);
    x.lead(2, 1);
    x.lead(3, 0);
    is("told(21)", x.told(21), ABSENT);
    is("told(22)", x.told(22), 1);
    is("told(23)", x.told(23), 0);
    x.lead(2, 0);
    is("in another's place: told(22)", x.told(22), 0);
    is("told(23)", x.told(23), ABSENT);
    is("of(1, 3)", x.of(1, 3), ABSENT);
  }

  private static void sum() {
    WassailEnemies x = under("hot 9 t<2;cold 12 t>0;hot 50 p=1;cold 99 p=0;cold 0 p<9");
    x.hater(HATER, 0, 30);
    x.hater(HATER, 0, 30);
    is("30 + 9 - 99: of(0, 20)", x.of(0, 20), -60);
    is("30 + 9 - 12 - 99: of(0, 21)", x.of(0, 21), -72);
    is("30 - 12 - 99: of(0, 22)", x.of(0, 22), -81);
    is("30 + 9 + 50: of(1, 20)", x.of(1, 20), 89);
    is("30 + 9 - 12 + 50: of(1, 21)", x.of(1, 21), 77);
    is("30 - 12 + 50: of(1, 24)", x.of(1, 24), 68);
    WassailEnemies most = under("hot 99 p<9" + ";hot 99 p<9".repeat(8));
    most.hater(LAD, 0, 99);
    is("2 * (99 + 9 * 99): of(0, 20)", most.of(0, 20), 1980);
    WassailEnemies least = under("cold 99 p<9;cold 99 p<9;cold 99 p<9;cold 99 p<9;cold 99 p<9;cold 99 p<9");
    least.hater(HATER, 0, 0);
    is("0 - 6 * 99: of(0, 24)", least.of(0, 24), -594);
  }

  private static void forceOfHater() {
    WassailEnemies x = under("cold 9 t=0");
    x.hater(HATER, 9, 8);
    is("below 0: of(0, 20)", x.of(0, 20), -1);
    is("v does not count: of(0, 21)", x.of(0, 21), 8);
    x.leave(0, true);
    x.pass(1);
    is("GONE, in an odd YEAR: of(0, 21)", x.of(0, 21), 8);
  }

  private static void forceOfUncle() {
    WassailEnemies x = one(UNCLE, 9, 31);
    int[] want = {31, 40, 31, 40, 31};
    for (int t = 0; t < 5; t++) {
      is("of(0, 2" + t + ")", x.of(0, 20 + t), want[t]);
    }
    x.pass(1);
    is("in an odd YEAR: of(0, 21)", x.of(0, 21), 40);
  }

  private static void forceOfLad() {
    WassailEnemies x = under("cold 30 t=0;hot 30 t=1;cold 99 t=2");
    x.hater(LAD, 9, 49);
    x.hater(LAD, 9, 50);
    is("49 - 30: of(0, 20)", x.of(0, 20), 19);
    is("49 + 30: of(0, 21)", x.of(0, 21), 79);
    is("49 - 99: of(0, 22)", x.of(0, 22), -50);
    is("49: of(0, 23)", x.of(0, 23), 49);
    is("twice 50 - 30: of(1, 20)", x.of(1, 20), 40);
    is("twice 50 + 30: of(1, 21)", x.of(1, 21), 160);
    is("twice 50 - 99: of(1, 22)", x.of(1, 22), -98);
    is("twice 50: of(1, 23)", x.of(1, 23), 100);
    x.hate(0, 4, 50);
    is("HATE for that TREE: of(0, 24)", x.of(0, 24), 100);
  }

  private static void forceOfLover() {
    WassailEnemies x = under("cold 30 t=4");
    x.hater(LOVER, 9, 0);
    x.hater(LOVER, 9, 50);
    x.hater(LOVER, 9, 51);
    x.hater(LOVER, 9, 99);
    is("of(0, 21)", x.of(0, 21), 50);
    is("of(1, 21)", x.of(1, 21), 0);
    is("of(2, 21)", x.of(2, 21), -1);
    is("of(3, 21)", x.of(3, 21), -49);
    is("SUM below 0: of(0, 24)", x.of(0, 24), 80);
  }

  private static void forceOfGrowler() {
    WassailEnemies x = under("cold 99 t>2");
    x.hater(GROWLER, 4, 31);
    x.hate(0, 3, 30);
    x.hate(0, 4, 30);
    int[] even = {31, 35, 31, -65, -69};
    int[] odd = {15, 17, 15, -32, -34};
    for (int t = 0; t < 5; t++) {
      is("even: of(0, 2" + t + ")", x.of(0, 20 + t), even[t]);
    }
    x.pass(1);
    for (int t = 0; t < 5; t++) {
      is("odd: of(0, 2" + t + ")", x.of(0, 20 + t), odd[t]);
    }
    x.pass(1);
    is("even again: of(0, 21)", x.of(0, 21), 35);
  }

  private static void forceOfFeller() {
    WassailEnemies x = one(FELLER, 9, 50);
    x.hater(FELLER, 9, 49);
    x.hater(FELLER, 9, 4);
    int[] years = {0, 9, 10, 13};
    for (int i = 0; i < years.length; i++) {
      x.pass(years[i] - (i == 0 ? 0 : years[i - 1]));
      int less = years[i] % 10;
      is(years[i] + ": of(0, 21)", x.of(0, 21), 100 - less);
      is(years[i] + ": of(1, 21)", x.of(1, 21), 49 - less);
      is(years[i] + ", may be below 0: of(2, 21)", x.of(2, 21), 4 - less);
    }
    WassailEnemies late = one(FELLER, 0, 50);
    passTo9999(late);
    is("9999: of(0, 21)", late.of(0, 21), 100 - 9);
  }

  private static void forceOfTold() {
    WassailEnemies x = one(TOLD, 9, 45);
    x.hater(TOLD, 9, 60);
    x.hater(LOVER, 9, 45);
    for (int part = 0; part < 4; part++) {
      is("at first, by pass(" + part + "): of(0, 21)", x.of(0, 21), 5);
      x.pass(1);
    }
    int[] row = {9, 0, 3, 8};
    for (int part = 0; part < 4; part++) {
      x.row(0, part, row[part]);
    }
    for (int year = 4; year < 13; year++) {
      is("in " + year + ": of(0, 20)", x.of(0, 20), 5 + row[year % 4]);
      is("another's is its own, in " + year + ": of(1, 20)", x.of(1, 20), -10);
      is("a LOVER has none, in " + year + ": of(2, 20)", x.of(2, 20), 5);
      x.pass(1);
    }
  }

  private static void bears() {
    WassailEnemies x = hating(19, 20, 21);
    x.lead(0, 0);
    x.lead(1, 1);
    x.lead(2, 2);
    is("19, 20, 21 of 20: told(3)", x.told(3), 6);
    is("by how many: odds(3, 0)", x.odds(3, 0), 2);
    x.leave(1, true);
    is("1 is GONE: told(3)", x.told(3), 4);
    WassailEnemies zero = under("need 0;cold 1 t=1;cold 2 t=2");
    zero.hater(HATER, 0, 1);
    zero.hater(HATER, 0, 1);
    zero.hater(HATER, 0, 1);
    zero.lead(0, 0);
    zero.lead(1, 1);
    zero.lead(2, 2);
    is("1, 0, -1 of 0: told(3)", zero.told(3), 3);
  }

  /** In YEAR 0 a GROWLER is whole: it bears then, though it would not in YEAR 1 or with less HATE. */
  private static void aheadOfIt() {
    WassailEnemies x = one(GROWLER, 0, 20);
    x.hater(FELLER, 0, 20);
    x.hater(LAD, 0, 50);
    x.lead(0, 0);
    x.lead(1, 1);
    x.lead(2, 2);
    x.pass(1);
    bore(x, 1, 1, 1, 0, 0);
    is("of(0, 10)", x.of(0, 10), 17);
    is("of(1, 11)", x.of(1, 11), 17);
    is("of(2, 12)", x.of(2, 12), 47);
    x.pass(1);
    bore(x, 1, 1, 2, 0, 0);
  }

  private static void oneMore() {
    WassailEnemies x = hating(20, 19, 99, 99);
    x.lead(0, 0);
    x.lead(1, 1);
    x.lead(2, 2);
    x.lead(4, 3);
    x.leave(3, true);
    x.pass(1);
    bore(x, 1, 0, 1, 0, 0);
    x.pass(1);
    bore(x, 1, 0, 2, 0, 0);
  }

  private static void wearLess() {
    WassailEnemies x = hating(26, 19, 20);
    x.lead(3, 0);
    x.lead(1, 1);
    x.pass(1);
    is("of(0, 13)", x.of(0, 13), 23);
    is("for no other TREE: of(0, 12)", x.of(0, 12), 26);
    is("did not bear: of(1, 11)", x.of(1, 11), 19);
    is("no LEADER: of(2, 13)", x.of(2, 13), 20);
    int[] hates = {9, 10, 11};
    int[] left = {0, 0, 1};
    for (int i = 0; i < hates.length; i++) {
      WassailEnemies worn = under("need 5;wear 10");
      worn.hater(HATER, 0, hates[i]);
      worn.lead(4, 0);
      worn.pass(1);
      is(hates[i] + " less 10: of(0, 14)", worn.of(0, 14), left[i]);
    }
  }

  private static void yearMore() {
    WassailEnemies x = new WassailEnemies();
    x.pass(1);
    is("told(0)", x.told(0), 1);
    x.pass(1);
    is("told(0)", x.told(0), 2);
  }
}
