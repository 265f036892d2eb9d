/** Promises 1 to 7: a new object, hater, of, hate, lead, leave, row. */
public final class HatersTest {
  private static final int NONE = -1, BAD = -2, STATE = -3, FULL = -4, ABSENT = -5, NO_SUCH = -10001;
  private static final int MIN = Integer.MIN_VALUE, MAX = Integer.MAX_VALUE;

  public static void main(String[] args) {
    constants();
    newObject();
    hater();
    ofPlain();
    ofForce();
    ofLasts();
    hate();
    lead();
    leave();
    row();
    Due.end("HatersTest");
  }

  private static void constants() {
    Due.is("NONE", WassailEnemies.NONE, -1);
    Due.is("BAD", WassailEnemies.BAD, -2);
    Due.is("STATE", WassailEnemies.STATE, -3);
    Due.is("FULL", WassailEnemies.FULL, -4);
    Due.is("NO", WassailEnemies.NO, Long.MIN_VALUE);
  }

  private static void newObject() {
    WassailEnemies x = new WassailEnemies();
    for (int what = 0; what <= 6; what++) {
      Due.is("new: count(" + what + ")", x.count(what), 0);
    }
    Due.is("new: told(0)", x.told(0), 0);
    Due.is("new: told(1)", x.told(1), 20);
    Due.is("new: told(2)", x.told(2), 3);
    for (int t = 0; t < 5; t++) {
      Due.is("new: told(1t)", x.told(10 + t), 0);
      Due.is("new: told(2t)", x.told(20 + t), ABSENT);
    }
    Due.is("new: of(0, 0)", x.of(0, 0), NO_SUCH);
    Due.is("new: undo()", x.undo(), STATE);
    Due.is("new: read(0, 0)", x.read(0, 0), Long.MIN_VALUE);
    Due.is("new: item(0, 0, 0)", x.item(0, 0, 0), -11);
    Due.is("new: trace(0)", x.trace(0), NONE);
    Due.is("new: orchard() of nothing", x.orchard(), -10);
    new WassailEnemies().hater(0, 0, 0);
    Due.is("an object is not another: count(0)", x.count(0), 0);
  }

  private static void hater() {
    WassailEnemies x = new WassailEnemies();
    Due.is("hater(-1, 0, 0)", x.hater(-1, 0, 0), NONE);
    Due.is("hater(7, -1, -1)", x.hater(7, -1, -1), NONE);
    Due.is("hater(MIN, 0, 0)", x.hater(MIN, 0, 0), NONE);
    Due.is("hater(MAX, 0, 0)", x.hater(MAX, 0, 0), NONE);
    Due.is("hater(0, -1, 0)", x.hater(0, -1, 0), BAD);
    Due.is("hater(0, 10, 0)", x.hater(0, 10, 0), BAD);
    Due.is("hater(0, 0, -1)", x.hater(0, 0, -1), BAD);
    Due.is("hater(0, 0, 100)", x.hater(0, 0, 100), BAD);
    Due.is("refused ones do not come: count(0)", x.count(0), 0);
    Due.is("hater(0, 0, 0)", x.hater(0, 0, 0), 0);
    Due.is("hater(6, 9, 99)", x.hater(6, 9, 99), 1);
    Due.is("hater(1, 2, 3)", x.hater(1, 2, 3), 2);
    Due.is("hater(2, 3, 4)", x.hater(2, 3, 4), 3);
    Due.is("hater(3, 4, 5)", x.hater(3, 4, 5), 4);
    Due.is("count(0)", x.count(0), 5);
    Due.is("hater(4, 5, 6)", x.hater(4, 5, 6), 5);
    Due.is("hater(5, 6, 7)", x.hater(5, 6, 7), FULL);
    Due.is("full: hater(7, 0, 0)", x.hater(7, 0, 0), NONE);
    Due.is("full: hater(0, 10, 0)", x.hater(0, 10, 0), BAD);
    Due.is("full: hater(0, 0, 100)", x.hater(0, 0, 100), BAD);
    Due.is("count(0)", x.count(0), 6);
    for (int t = 0; t < 5; t++) {
      Due.is("of(0, 1t)", x.of(0, 10 + t), 0);
      Due.is("of(1, 1t)", x.of(1, 10 + t), 99);
    }
  }

  private static void ofPlain() {
    WassailEnemies x = new WassailEnemies();
    x.hater(4, 7, 12);
    x.hater(2, 0, 34);
    Due.is("of(0, 0)", x.of(0, 0), 4);
    Due.is("of(1, 0)", x.of(1, 0), 2);
    Due.is("of(0, 1)", x.of(0, 1), 7);
    Due.is("of(0, 2)", x.of(0, 2), 0);
    x.leave(0, true);
    Due.is("gone: of(0, 2)", x.of(0, 2), 1);
    Due.is("not gone: of(1, 2)", x.of(1, 2), 0);
    Due.is("of(0, 3)", x.of(0, 3), ABSENT);
    x.lead(4, 0);
    x.lead(0, 1);
    Due.is("of(0, 3)", x.of(0, 3), 4);
    Due.is("of(1, 3)", x.of(1, 3), 0);
    x.hate(1, 3, 35);
    Due.is("of(1, 12)", x.of(1, 12), 34);
    Due.is("of(1, 13)", x.of(1, 13), 35);
    int[] whats = {-1, 4, 9, 15, 19, 25, 29, 35, 40, 100, -10, -20, -30, MIN, MAX};
    for (int what : whats) {
      Due.is("of(0, " + what + ")", x.of(0, what), NO_SUCH);
    }
    for (int hater : new int[] {-1, 2, 6, MIN, MAX}) {
      Due.is("of(" + hater + ", 0)", x.of(hater, 0), NO_SUCH);
      Due.is("of(" + hater + ", 30)", x.of(hater, 30), NO_SUCH);
    }
  }

  private static void ofForce() {
    WassailEnemies x = new WassailEnemies();
    x.hater(0, 9, 31);
    x.hater(1, 9, 31);
    x.hater(2, 9, 49);
    x.hater(3, 9, 99);
    x.hater(4, 8, 31);
    x.hater(5, 9, 50);
    x.hate(2, 1, 50);
    Due.is("HATER of(0, 21)", x.of(0, 21), 31);
    Due.is("UNCLE of(1, 20)", x.of(1, 20), 31);
    Due.is("UNCLE of(1, 21)", x.of(1, 21), 40);
    Due.is("UNCLE of(1, 22)", x.of(1, 22), 31);
    Due.is("UNCLE of(1, 23)", x.of(1, 23), 40);
    Due.is("UNCLE of(1, 24)", x.of(1, 24), 31);
    Due.is("LAD of(2, 20) at 49", x.of(2, 20), 49);
    Due.is("LAD of(2, 21) at 50", x.of(2, 21), 100);
    Due.is("LOVER of(3, 20)", x.of(3, 20), -49);
    Due.is("GROWLER of(4, 20)", x.of(4, 20), 31);
    Due.is("GROWLER of(4, 21)", x.of(4, 21), 39);
    Due.is("FELLER of(5, 20)", x.of(5, 20), 100);
    x.pass(13);
    Due.is("odd: UNCLE of(1, 21)", x.of(1, 21), 40);
    Due.is("odd: GROWLER of(4, 20)", x.of(4, 20), 15);
    Due.is("odd: GROWLER of(4, 21)", x.of(4, 21), 19);
    Due.is("13: FELLER of(5, 20)", x.of(5, 20), 97);
    Due.is("13: LAD of(2, 21)", x.of(2, 21), 100);
    x.pass(7);
    Due.is("20: FELLER of(5, 20)", x.of(5, 20), 100);
    Due.is("20: GROWLER of(4, 21)", x.of(4, 21), 39);
    x.leave(0, true);
    Due.is("gone: of(0, 20)", x.of(0, 20), 31);
    belowZero();
    byRow();
  }

  /** SUM below 0: the half of a GROWLER is cut toward 0, a LAD's is twice as far below. */
  private static void belowZero() {
    WassailEnemies x = Due.under("cold 99 p<9");
    x.hater(4, 4, 0);
    x.hater(2, 0, 50);
    x.hater(3, 0, 0);
    Due.is("GROWLER of(0, 21), even", x.of(0, 21), -95);
    x.pass(1);
    Due.is("GROWLER of(0, 20), odd", x.of(0, 20), -49);
    Due.is("GROWLER of(0, 21), odd", x.of(0, 21), -47);
    Due.is("LAD of(1, 20)", x.of(1, 20), -98);
    Due.is("LOVER of(2, 20)", x.of(2, 20), 149);
  }

  private static void byRow() {
    WassailEnemies x = new WassailEnemies();
    x.hater(6, 9, 45);
    for (int part = 0; part < 4; part++) {
      x.row(0, part, part * 2 + 1);
    }
    for (int year = 0; year < 6; year++) {
      Due.is("TOLD of(0, 22) in " + year, x.of(0, 22), 5 + year % 4 * 2 + 1);
      x.pass(1);
    }
  }

  private static void ofLasts() {
    WassailEnemies x = new WassailEnemies();
    x.hater(0, 0, 29);
    x.hater(1, 5, 15);
    x.hater(2, 0, 55);
    x.hater(3, 0, 30);
    x.hater(4, 9, 41);
    x.hater(3, 0, 31);
    Due.is("29, 26, 23, 20: of(0, 30)", x.of(0, 30), 4);
    Due.is("of(1, 30)", x.of(1, 30), 0);
    Due.is("20: of(1, 31)", x.of(1, 31), 1);
    Due.is("55, 52, 49 .. 22: of(2, 34)", x.of(2, 34), 12);
    Due.is("stronger each YEAR: of(3, 30)", x.of(3, 30), 60);
    Due.is("never begins: of(5, 30)", x.of(5, 30), 0);
    Due.is("41, then 19: of(4, 30)", x.of(4, 30), 1);
    Due.is("50, 23, 44, 20, 38, 17: of(4, 31)", x.of(4, 31), 5);
    x.leave(0, true);
    Due.is("gone: of(0, 30)", x.of(0, 30), 0);
    Due.is("asking changes nothing: of(4, 11)", x.of(4, 11), 41);
    Due.is("asking changes nothing: told(11)", x.told(11), 0);
    Due.is("asking changes nothing: told(0)", x.told(0), 0);
    x.pass(1);
    Due.is("25, 47, 22, 41, 19: of(4, 31)", x.of(4, 31), 4);
    WassailEnemies still = Due.under("wear 0;need 60");
    still.hater(0, 0, 60);
    still.hater(0, 0, 59);
    Due.is("wear 0: of(0, 30)", still.of(0, 30), 60);
    Due.is("wear 0: of(1, 30)", still.of(1, 30), 0);
    WassailEnemies worn = Due.under("wear 50;need 0");
    worn.hater(0, 0, 60);
    Due.is("0 at least, so never below need: of(0, 30)", worn.of(0, 30), 60);
  }

  private static void hate() {
    WassailEnemies x = new WassailEnemies();
    x.hater(0, 0, 10);
    x.hater(0, 0, 20);
    Due.is("hate(1, 4, 99)", x.hate(1, 4, 99), 20);
    Due.is("hate(1, 4, 0)", x.hate(1, 4, 0), 99);
    Due.is("of(1, 14)", x.of(1, 14), 0);
    Due.is("of(1, 13)", x.of(1, 13), 20);
    Due.is("of(0, 14)", x.of(0, 14), 10);
    Due.is("hate(2, 0, 0)", x.hate(2, 0, 0), NONE);
    Due.is("hate(-1, 0, 100)", x.hate(-1, 0, 100), NONE);
    Due.is("hate(0, 5, 0)", x.hate(0, 5, 0), NONE);
    Due.is("hate(0, -1, 100)", x.hate(0, -1, 100), NONE);
    Due.is("hate(MAX, MIN, 0)", x.hate(MAX, MIN, 0), NONE);
    Due.is("hate(0, 0, 100)", x.hate(0, 0, 100), BAD);
    Due.is("hate(0, 0, -1)", x.hate(0, 0, -1), BAD);
    Due.is("of(0, 10)", x.of(0, 10), 10);
  }

  private static void lead() {
    WassailEnemies x = new WassailEnemies();
    x.hater(0, 0, 50);
    x.hater(0, 0, 50);
    Due.is("lead(3, 0)", x.lead(3, 0), ABSENT);
    Due.is("lead(3, 1)", x.lead(3, 1), 0);
    Due.is("of(0, 3)", x.of(0, 3), ABSENT);
    Due.is("lead(1, 0)", x.lead(1, 0), ABSENT);
    Due.is("comes from another: lead(3, 0)", x.lead(3, 0), 1);
    Due.is("told(21)", x.told(21), ABSENT);
    Due.is("told(23)", x.told(23), 0);
    Due.is("of(1, 3)", x.of(1, 3), ABSENT);
    Due.is("the same again: lead(3, 0)", x.lead(3, 0), 0);
    Due.is("told(23)", x.told(23), 0);
    Due.is("lead(3, -1)", x.lead(3, -1), 0);
    Due.is("lead(3, -1)", x.lead(3, -1), ABSENT);
    Due.is("told(23)", x.told(23), ABSENT);
    x.lead(0, 0);
    x.lead(4, 1);
    x.lead(2, -1);
    Due.is("nobody at one leaves others: told(20)", x.told(20), 0);
    Due.is("nobody at one leaves others: told(24)", x.told(24), 1);
    for (int tree : new int[] {-1, 5, MIN, MAX}) {
      Due.is("lead(" + tree + ", 0)", x.lead(tree, 0), NONE);
      Due.is("lead(" + tree + ", -1)", x.lead(tree, -1), NONE);
    }
    for (int hater : new int[] {-2, 2, 6, 9, ABSENT, MIN, MAX}) {
      Due.is("lead(0, " + hater + ")", x.lead(0, hater), NONE);
    }
    Due.is("told(20)", x.told(20), 0);
  }

  private static void leave() {
    WassailEnemies x = new WassailEnemies();
    x.hater(0, 0, 50);
    x.hater(0, 0, 50);
    x.lead(2, 1);
    Due.is("leave(1, false)", x.leave(1, false), 0);
    Due.is("leave(1, true)", x.leave(1, true), 0);
    Due.is("leave(1, true)", x.leave(1, true), 1);
    Due.is("stays LEADER: told(22)", x.told(22), 1);
    Due.is("does not bear: told(3)", x.told(3), 0);
    x.pass(1);
    Due.is("does not bear: told(12)", x.told(12), 0);
    Due.is("does not wear: of(1, 12)", x.of(1, 12), 50);
    Due.is("can be made LEADER: lead(0, 1)", x.lead(0, 1), ABSENT);
    Due.is("leave(1, false)", x.leave(1, false), 1);
    Due.is("bears again: told(3)", x.told(3), 1);
    Due.is("of(0, 2)", x.of(0, 2), 0);
    Due.is("leave(2, true)", x.leave(2, true), NONE);
    Due.is("leave(-1, true)", x.leave(-1, true), NONE);
    Due.is("leave(MAX, true)", x.leave(MAX, true), NONE);
  }

  private static void row() {
    WassailEnemies x = new WassailEnemies();
    x.hater(6, 0, 0);
    x.hater(3, 0, 0);
    x.hater(0, 0, 0);
    Due.is("row(0, 3, 9)", x.row(0, 3, 9), 0);
    Due.is("row(0, 3, 0)", x.row(0, 3, 0), 9);
    Due.is("row(0, 0, 4)", x.row(0, 0, 4), 0);
    Due.is("of(0, 20)", x.of(0, 20), 54);
    Due.is("row(3, 0, 0)", x.row(3, 0, 0), NONE);
    Due.is("row(-1, 0, 10)", x.row(-1, 0, 10), NONE);
    Due.is("row(0, 4, 10)", x.row(0, 4, 10), NONE);
    Due.is("row(0, -1, 0)", x.row(0, -1, 0), NONE);
    Due.is("row(1, 4, 0)", x.row(1, 4, 0), NONE);
    Due.is("row(0, 0, 10)", x.row(0, 0, 10), BAD);
    Due.is("row(0, 0, -1)", x.row(0, 0, -1), BAD);
    Due.is("row(1, 0, 10)", x.row(1, 0, 10), BAD);
    Due.is("row(1, 0, 1)", x.row(1, 0, 1), STATE);
    Due.is("row(2, 0, 1)", x.row(2, 0, 1), STATE);
    Due.is("row(0, 0, 4)", x.row(0, 0, 4), 4);
  }
}
