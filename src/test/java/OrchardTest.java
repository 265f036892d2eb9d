/** Promises 8 to 10: feed, orchard, told; and what an ORCHARD does to SUM, NEED and WEAR. */
public final class OrchardTest {
  private static final int NONE = -1, BAD = -2, FULL = -4, ABSENT = -5;

  public static void main(String[] args) {
    feed();
    faults();
    depth();
    clauses();
    orchards();
    tests();
    joins();
    sums();
    told();
    worst();
    Due.end("OrchardTest");
  }

  private static void feed() {
    WassailEnemies x = new WassailEnemies();
    Due.is("feed(-1)", x.feed(-1), BAD);
    Due.is("feed(128)", x.feed(128), BAD);
    Due.is("feed(MIN)", x.feed(Integer.MIN_VALUE), BAD);
    Due.is("feed(0)", x.feed(0), 1);
    Due.is("feed(127)", x.feed(127), 2);
    for (int i = 3; i <= 100; i++) {
      Due.is("feed " + i, x.feed('h'), i);
    }
    Due.is("feed(104)", x.feed('h'), FULL);
    Due.is("full: feed(128)", x.feed(128), BAD);
    Due.is("count(5)", x.count(5), 100);
    Due.is("orchard()", x.orchard(), -10);
    Due.is("emptied: count(5)", x.count(5), 0);
    Due.is("emptied: feed(104)", x.feed('h'), 1);
  }

  private static void fault(String text, int place) {
    WassailEnemies x = new WassailEnemies();
    Due.is("orchard() of " + text, Due.orchard(x, text), -10 - place);
    Due.is("count(5) behind " + text, x.count(5), 0);
    Due.is("count(1) behind " + text, x.count(1), 0);
  }

  private static void faults() {
    fault("", 0);
    fault(" need 1", 0);
    fault(";", 0);
    fault("Need 1", 0);
    fault("h", 1);
    fault("hop 1 p=1", 2);
    fault("hcold 1 p=1", 1);
    fault("coldd 1 p=1", 4);
    fault("cot 1 p=1", 2);
    fault("neat 1", 2);
    fault("weak 1", 3);
    fault("need1", 4);
    fault("need  1", 5);
    fault("need ", 5);
    fault("need x", 5);
    fault("need 123", 7);
    fault("need 1 ", 6);
    fault("need 1 p=1", 6);
    fault("need 1;", 7);
    fault("need 1; wear 1", 7);
    fault("need 1;;wear 1", 7);
    fault("wear -1", 5);
    fault("hot 1", 5);
    fault("hot 12", 6);
    fault("hot 123 p=1", 6);
    fault("hot 1;need 1", 5);
    fault("hot 1 ", 6);
    fault("hot 1  p=1", 6);
    fault("hot 1 x=1", 6);
    fault("hot 1 P=1", 6);
    fault("hot 1 p", 7);
    fault("hot 1 p1", 7);
    fault("hot 1 p!1", 7);
    fault("hot 1 p=", 8);
    fault("hot 1 p==1", 8);
    fault("hot 1 p=p", 8);
    fault("hot 1 p=123", 10);
    fault("hot 1 p=1 ", 9);
    fault("hot 1 p=1 need 1", 9);
    fault("hot 1 p=1)", 9);
    fault("hot 1 p=1|", 10);
    fault("hot 1 p=1||p=2", 10);
    fault("hot 1 p=1&|p=2", 10);
    fault("hot 1 |p=1", 6);
    fault("hot 1 ()", 7);
    fault("hot 1 (p=1", 10);
    fault("hot 1 (p=1;need 1", 10);
    fault("hot 1 (p=1)(p=2)", 11);
    fault("hot 1 (p=1)p=2", 11);
    fault("hot 1 p=1!p=2", 9);
    fault("hot 1 !", 7);
    fault("hot 1 !)", 7);
    fault("hot 1 p=1;x", 10);
    fault("hot 1 p=1;hot 1 q=1", 16);
    fault("wear 1;need 99;col", 18);
    fault("hot 1 p=1\u0000", 9);
    fault("hot \u0000", 4);
  }

  private static void depth() {
    fault("cold 1 (((((p=1)))))", 11);
    fault("hot 1 !!!!!p=1", 10);
    fault("hot 1 !(!(!p=1))", 10);
    fault("hot 1 ((!(p=1))|(p=1))&((((p=1", 30);
    fault("hot 1 ((((p=1|(p=2)))))", 14);
    fault("hot 1 ((((p=1&!p=2))))", 14);
    fault("hot 1 ((((p=1))))&(((((p=1)))))", 22);
    Due.under("hot 1 ((((p=1))))");
    Due.under("hot 1 !!!!p=1");
    Due.under("hot 1 !(!(p=1))&!(!(p=1))|((((p=2))))");
    Due.under("hot 1 ((((p=1))));cold 1 ((((p=1))))");
  }

  /** One to ten of them; an eleventh has no room, so the ; ahead of it is the FAULT. */
  private static void clauses() {
    StringBuilder ten = new StringBuilder("need 1");
    for (int i = 2; i <= 10; i++) {
      Due.under(ten.toString());
      ten.append(";need ").append(i);
    }
    WassailEnemies x = Due.under(ten.toString());
    Due.is("told(1)", x.told(1), 10);
    fault(ten + ";need 1", 70);
    fault(ten + ";", 70);
    fault(ten + "0", 70);
    fault("hot 1 p=1" + "|p=1".repeat(22) + "&t=", 100);
    WassailEnemies full = Due.under("hot 11 p=11|p=11" + "|p=0".repeat(21));
    full.hater(0, 0, 50);
    full.hater(0, 0, 50);
    Due.is("of(0, 20)", full.of(0, 20), 61);
    Due.is("of(1, 20)", full.of(1, 20), 50);
  }

  private static void orchards() {
    WassailEnemies x = Due.under("need 11");
    Due.is("told(1)", x.told(1), 11);
    Due.is("told(2)", x.told(2), 3);
    Due.is("orchard()", Due.orchard(x, "wear 7"), 1);
    Due.is("the newest holds: told(1)", x.told(1), 20);
    Due.is("the newest holds: told(2)", x.told(2), 7);
    Due.is("a fault: orchard()", Due.orchard(x, "need 5;wear 5;hot"), -10 - 17);
    Due.is("that which held holds: told(1)", x.told(1), 20);
    Due.is("that which held holds: told(2)", x.told(2), 7);
    Due.is("orchard()", Due.orchard(x, "need 0"), 2);
    Due.is("told(1)", x.told(1), 0);
    Due.is("orchard()", Due.orchard(x, "need 99;wear 99"), 3);
    Due.is("told(2)", x.told(2), 99);
    Due.is("orchard()", Due.orchard(x, "need 07;wear 00"), 4);
    Due.is("told(1)", x.told(1), 7);
    Due.is("told(2)", x.told(2), 0);
    Due.is("orchard()", Due.orchard(x, "need 1;need 2;wear 3;wear 4;need 5"), 5);
    Due.is("told(1)", x.told(1), 5);
    Due.is("told(2)", x.told(2), 4);
    Due.is("count(1)", x.count(1), 6);
    Due.is("a seventh: orchard()", Due.orchard(x, "need 9"), FULL);
    Due.is("the text stays: count(5)", x.count(5), 6);
    Due.is("a seventh, faulty: orchard()", Due.orchard(x, "??"), FULL);
    Due.is("the text stays: count(5)", x.count(5), 8);
    Due.is("told(1)", x.told(1), 5);
    WassailEnemies again = new WassailEnemies();
    again.hater(0, 0, 30);
    Due.is("orchard()", Due.orchard(again, "hot 9 p=0;hot 9 p=1"), 0);
    Due.is("orchard()", Due.orchard(again, "hot 1 p=0;hot 1 p=0;cold 3 h=3;x"), -10 - 31);
    Due.is("orchard()", Due.orchard(again, "hot 1 p=0"), 1);
    Due.is("nothing is left of those before: of(0, 20)", again.of(0, 20), 31);
    Due.is("nothing is left of THE TEXT before: orchard()", Due.orchard(again, "hot 1 "), -10 - 6);
  }

  /** Whether E holds for a HATER with this kind, v and hate as number p at a TREE in a YEAR. */
  private static void test(String e, boolean want, int p, int tree, int year) {
    WassailEnemies x = Due.under("hot 1 " + e);
    x.hater(0, 4, 57);
    x.hater(1, 0, 9);
    x.hater(3, 9, 99);
    x.hater(6, 5, 50);
    x.pass(year);
    int[] sums = {57, 9, 99, 50};
    int force = x.of(p, 20 + tree);
    int sum = p >= 2 ? 50 - force : force;
    Due.is(e + " of " + p + " at " + tree + " in " + year, sum - sums[p], want ? 1 : 0);
  }

  private static void tests() {
    test("p=0", true, 0, 3, 0);
    test("p=0", false, 1, 3, 0);
    test("p<1", true, 0, 0, 0);
    test("p<1", false, 1, 0, 0);
    test("p>2", true, 3, 0, 0);
    test("p>2", false, 2, 0, 0);
    test("t=3", true, 2, 3, 0);
    test("t=3", false, 3, 2, 0);
    test("t<3", true, 0, 2, 0);
    test("t<3", false, 0, 3, 0);
    test("t>3", true, 0, 4, 0);
    test("k=6", true, 3, 0, 0);
    test("k=3", true, 2, 0, 0);
    test("k=3", false, 3, 0, 0);
    test("v=4", true, 0, 0, 0);
    test("v>8", true, 2, 0, 0);
    test("v<5", false, 3, 0, 0);
    test("h=5", true, 0, 0, 0);
    test("h=5", true, 3, 0, 0);
    test("h=0", true, 1, 0, 0);
    test("h=9", true, 2, 0, 0);
    test("h>5", false, 0, 0, 0);
    test("h=57", false, 0, 0, 0);
    test("y=0", true, 0, 0, 0);
    test("y=3", true, 0, 0, 13);
    test("y=13", false, 0, 0, 13);
    test("y<9", false, 0, 0, 9);
    test("y=0", true, 0, 0, 10);
    test("p<99", true, 3, 0, 0);
    test("p=00", true, 0, 0, 0);
    test("p=01", true, 1, 0, 0);
    test("t>10", false, 0, 4, 0);
  }

  private static void joins() {
    test("!p=0", false, 0, 0, 0);
    test("!p=0", true, 1, 0, 0);
    test("!!p=0", true, 0, 0, 0);
    test("p=0&t=1", true, 0, 1, 0);
    test("p=0&t=1", false, 0, 2, 0);
    test("p=1&t=1", false, 0, 1, 0);
    test("p=0|t=1", true, 0, 2, 0);
    test("p=1|t=1", true, 0, 1, 0);
    test("p=1|t=1", false, 0, 2, 0);
    test("p=0|p=1&t=4", true, 0, 0, 0);
    test("(p=0|p=1)&t=4", false, 0, 0, 0);
    test("t=4&p=1|p=0", true, 0, 0, 0);
    test("t=4&(p=1|p=0)", false, 0, 0, 0);
    test("!p=1&t=4", false, 0, 0, 0);
    test("!(p=1&t=4)", true, 0, 0, 0);
    test("!p=0|t=0", true, 0, 0, 0);
    test("!(p=0|t=1)", false, 0, 0, 0);
    test("p=0&!t=1&y=0", true, 0, 0, 0);
    test("p=0&!t=0&y=0", false, 0, 0, 0);
    test("p=1|t=1|y=0", true, 0, 0, 0);
    test("p=1|t=1|y=1", false, 0, 0, 0);
    test("p=0|t=1&y=1|v=9", true, 0, 0, 0);
    test("p=0|p=0|p=0&p=1", true, 0, 0, 0);
    test("(p=1|(t=1|(y=1|(v=4))))", true, 0, 0, 0);
    test("(p=1|(t=1|(y=1|(v=3))))", false, 0, 0, 0);
    test("p=1|p=0&(t=1|t=0&(y=1|y=0&(v=1|v=4&h=5)))", true, 0, 0, 0);
    test("p=1|p=0&(t=1|t=0&(y=1|y=0&(v=1|v=4&h=6)))", false, 0, 0, 0);
  }

  private static void sums() {
    WassailEnemies x = Due.under("hot 9 t<2;cold 12 t>0;hot 50 p=1;cold 99 p=0;cold 0 p<9");
    x.hater(0, 0, 30);
    x.hater(0, 0, 30);
    Due.is("30 + 9 - 99: of(0, 20)", x.of(0, 20), -60);
    Due.is("30 + 9 - 12 - 99: of(0, 21)", x.of(0, 21), -72);
    Due.is("30 - 12 - 99: of(0, 22)", x.of(0, 22), -81);
    Due.is("30 + 9 + 50: of(1, 20)", x.of(1, 20), 89);
    Due.is("30 + 9 - 12 + 50: of(1, 21)", x.of(1, 21), 77);
    Due.is("30 - 12 + 50: of(1, 24)", x.of(1, 24), 68);
    WassailEnemies all = Due.under("hot 99 p<9;hot 99 p<9;hot 99 p<9;hot 99 p<9;hot 99 p<9;hot 99 p<9;hot 99 p<9");
    all.hater(2, 0, 99);
    Due.is("2 * (99 + 7 * 99): of(0, 20)", all.of(0, 20), 1584);
    Due.is("ring(1)", all.ring(1), 1584);
  }

  /** Six HATERS who bear anywhere: five still bear without any of them. */
  private static void five() {
    WassailEnemies x = new WassailEnemies();
    for (int p = 0; p < 6; p++) {
      x.hater(0, 0, 50);
    }
    Due.is("told(5)", x.told(5), 0);
    Due.is("told(6)", x.told(6), 5);
    x.leave(0, true);
    Due.is("told(5)", x.told(5), 1);
    Due.is("told(6)", x.told(6), 4);
  }

  private static void told() {
    WassailEnemies x = Due.under("need 30;wear 4");
    x.hater(0, 0, 30);
    x.hater(0, 0, 29);
    x.hater(0, 0, 50);
    x.lead(1, 0);
    x.lead(2, 1);
    x.lead(4, 2);
    Due.is("told(3)", x.told(3), 18);
    x.pass(2);
    Due.is("told(0)", x.told(0), 2);
    Due.is("told(1)", x.told(1), 30);
    Due.is("told(2)", x.told(2), 4);
    Due.is("told(3)", x.told(3), 16);
    Due.is("told(4)", x.told(4), 3);
    Due.is("told(10)", x.told(10), 0);
    Due.is("told(11)", x.told(11), 1);
    Due.is("told(12)", x.told(12), 0);
    Due.is("told(13)", x.told(13), 0);
    Due.is("told(14)", x.told(14), 2);
    Due.is("told(20)", x.told(20), ABSENT);
    Due.is("told(21)", x.told(21), 0);
    Due.is("told(22)", x.told(22), 1);
    Due.is("told(23)", x.told(23), ABSENT);
    Due.is("told(24)", x.told(24), 2);
    int[] whats = {-1, 7, 8, 9, 15, 19, 25, 30, 34, -10, -20, Integer.MIN_VALUE, Integer.MAX_VALUE};
    for (int what : whats) {
      Due.is("told(" + what + ")", x.told(what), NONE);
    }
  }

  private static void worst() {
    WassailEnemies x = new WassailEnemies();
    Due.is("no HATERS: told(5)", x.told(5), ABSENT);
    Due.is("no HATERS: told(6)", x.told(6), ABSENT);
    x.hater(0, 0, 10);
    x.hater(0, 0, 10);
    Due.is("none bears, the first: told(5)", x.told(5), 0);
    Due.is("told(6)", x.told(6), 0);
    x.hate(1, 3, 40);
    Due.is("told(5)", x.told(5), 1);
    Due.is("told(6)", x.told(6), 0);
    x.hate(0, 3, 90);
    Due.is("each can do it: told(5)", x.told(5), 0);
    Due.is("told(6)", x.told(6), 1);
    x.hater(0, 0, 10);
    x.hate(2, 0, 20);
    Due.is("only 2 at 0: told(5)", x.told(5), 2);
    Due.is("told(6)", x.told(6), 1);
    x.leave(2, true);
    Due.is("gone ones are not asked: told(5)", x.told(5), 0);
    Due.is("told(6)", x.told(6), 1);
    x.leave(0, true);
    Due.is("told(5)", x.told(5), 1);
    Due.is("told(6)", x.told(6), 0);
    x.leave(1, true);
    Due.is("all are gone: told(5)", x.told(5), ABSENT);
    Due.is("all are gone: count(0)", x.count(0), 3);
    five();
    Due.is("all are gone: told(6)", x.told(6), ABSENT);
  }
}
