/** Terms, ==== 1: THE TEXT, CLAUSES, the FAULT, NEED and WEAR. */
final class TextSentences extends Sentences {
  private TextSentences() {}

  static void all() {
    Doc.part("Terms 1");
    Doc.says("AN ORCHARD is read from THE TEXT (bytes, 100 at most):", TextSentences::bytes);
    Doc.says("AN ORCHARD is read from THE TEXT (bytes, 100 at most):", TextSentences::hundred);
    Doc.says("CLAUSES, 1 to 10,", TextSentences::clauses);
    Doc.says("with ; between:", TextSentences::between);
    Doc.says("hot n E; cold n E; need n; wear n", TextSentences::words);
    Doc.says("(one blank ahead of each part behind the word;", TextSentences::blanks);
    Doc.says("n 1 or 2 digits).", TextSentences::digits);
    Doc.says("E: T or T|E.", TextSentences::or);
    Doc.says("T: F or F&T.", TextSentences::and);
    Doc.says("F: !F, (E), or a TEST:", TextSentences::not);
    Doc.says("F: !F, (E), or a TEST:", TextSentences::brackets);
    Doc.says("a letter, < or = or >, a number (1 or 2 digits):", TextSentences::test);
    Doc.says("a letter, < or = or >, a number (1 or 2 digits):", TextSentences::compared);
    Doc.says("of a HATER and a TREE p the number of the one, t of the other, k its KIND, v its v,",
        TextSentences::lettersOfHater);
    Doc.says("h HATE by 10 (cut),", TextSentences::letterOfHate);
    Doc.says("y YEAR modulo 10.", TextSentences::letterOfYear);
    Doc.says("A ( or ! within 4 others is none.", TextSentences::within);
    Doc.says("The FAULT: the place of the first byte with which none begins so (the end of THE TEXT, if it ends too"
        + " early).", TextSentences::firstFault);
    Doc.says("The FAULT: the place of the first byte with which none begins so (the end of THE TEXT, if it ends too"
        + " early).", TextSentences::faultAtEnd);
    Doc.says("The newest ORCHARD holds (6 at most);", TextSentences::newest);
    Doc.says("without one there are no CLAUSES.", TextSentences::without);
    Doc.says("NEED (20 without), WEAR (3 without):", TextSentences::needAndWearWithout);
    Doc.says("the last one's n.", TextSentences::last);
  }

  private static void bytes() {
    WassailEnemies x = new WassailEnemies();
    is("feed(0)", x.feed(0), 1);
    is("feed(127)", x.feed(127), 2);
    for (int sign : outside(0, 127)) {
      is("feed(" + sign + ")", x.feed(sign), BAD);
    }
    fault("\u0000", 0);
    fault("need 1\u0000", 6);
    fault("need \u007f", 5);
  }

  private static void hundred() {
    WassailEnemies x = new WassailEnemies();
    String text = "hot 11 p=11|p=11" + "|p=0".repeat(21);
    is("the 100th feed", Due.feed(x, text), 100);
    is("the 101st feed", x.feed('0'), FULL);
    is("orchard()", x.orchard(), 0);
    x.hater(HATER, 0, 50);
    x.hater(HATER, 0, 50);
    is("of(0, 20)", x.of(0, 20), 61);
    is("of(1, 20)", x.of(1, 20), 50);
  }

  private static void clauses() {
    fault("", 0);
    StringBuilder text = new StringBuilder("need 1");
    for (int i = 2; i <= 10; i++) {
      is("with " + (i - 1) + ": told(1)", under(text.toString()).told(1), i - 1);
      text.append(";need ").append(i);
    }
    is("with 10: told(1)", under(text.toString()).told(1), 10);
    fault(text + ";need 1", 70);
    fault(text + ";", 70);
    fault("need 1" + ";wear 2".repeat(9) + ";hot 1 p=1", 69);
    under("hot 1 p=1" + ";hot 1 p=1".repeat(9));
    fault("hot 1 p=1" + ";need 1".repeat(9) + ";", 72);
  }

  private static void between() {
    is("told(2)", under("need 1;wear 2").told(2), 2);
    fault(";", 0);
    fault(";need 1", 0);
    fault("need 1;", 7);
    fault("need 1;;wear 2", 7);
    fault("need 1,wear 2", 6);
    fault("need 1 ;wear 2", 6);
    fault("need 1; wear 2", 7);
    fault("need 1wear 2", 6);
    fault("hot 1 p=1 wear 2", 9);
  }

  private static void words() {
    WassailEnemies x = under("hot 1 p=0;cold 4 p=1;need 2;wear 5");
    x.hater(HATER, 0, 50);
    x.hater(HATER, 0, 50);
    is("of(0, 20)", x.of(0, 20), 51);
    is("of(1, 20)", x.of(1, 20), 46);
    is("told(1)", x.told(1), 2);
    is("told(2)", x.told(2), 5);
    fault("Hot 1 p=1", 0);
    fault("h", 1);
    fault("hop 1 p=1", 2);
    fault("c", 1);
    fault("cot 1 p=1", 2);
    fault("coldd 1 p=1", 4);
    fault("neat 1", 2);
    fault("nee", 3);
    fault("weak 1", 3);
    fault("w", 1);
    fault("hot 1", 5);
    fault("hot 1;need 1", 5);
    fault("cold 1", 6);
    fault("need 1 p=1", 6);
    fault("wear 1 p=1", 6);
  }

  private static void blanks() {
    fault(" need 1", 0);
    fault("need1", 4);
    fault("need  1", 5);
    fault("need 1 ", 6);
    fault("wear\t1", 4);
    fault("hot1 p=1", 3);
    fault("hot  1 p=1", 4);
    fault("hot 1p=1", 5);
    fault("hot 1  p=1", 6);
    fault("hot 1 p =1", 7);
    fault("hot 1 p=1 ", 9);
    fault("hot 1 p=1 |p=2", 9);
    fault("cold1 p=1", 4);
    fault("cold  1 p=1", 5);
    fault("cold 1p=1", 6);
  }

  private static void digits() {
    String[] texts = {"0", "9", "07", "10", "99", "00"};
    int[] numbers = {0, 9, 7, 10, 99, 0};
    for (int i = 0; i < texts.length; i++) {
      WassailEnemies x = under("need N;wear N;hot N t=0;cold N t=1".replace("N", texts[i]));
      x.hater(HATER, 0, 50);
      is("told(1) of " + texts[i], x.told(1), numbers[i]);
      is("told(2) of " + texts[i], x.told(2), numbers[i]);
      is("of(0, 20) of " + texts[i], x.of(0, 20), 50 + numbers[i]);
      is("of(0, 21) of " + texts[i], x.of(0, 21), 50 - numbers[i]);
    }
    fault("need ", 5);
    fault("need x", 5);
    fault("need 1/", 6);
    fault("need /", 5);
    fault("need :", 5);
    fault("need 100", 7);
    fault("need -1", 5);
    fault("need +1", 5);
    fault("wear 100", 7);
    fault("hot 100 p=1", 6);
    fault("cold 100 p=1", 7);
    fault("hot p=1", 4);
  }

  /** Whether E holds for a HATER with this kind, v and hate as number p at a TREE in a YEAR. */
  private static void holds(String e, boolean want, int p, int tree, int year) {
    WassailEnemies x = under("hot 1 " + e);
    x.hater(HATER, 4, 57);
    x.hater(UNCLE, 0, 9);
    x.hater(LOVER, 9, 99);
    x.hater(TOLD, 5, 50);
    x.pass(year);
    int[] without = {57, 9, 50 - 99, 50 - 50};
    int more = (x.of(p, 20 + tree) - without[p]) * (p >= 2 ? -1 : 1);
    is(e + " of " + p + " at " + tree + " in " + year, more, want ? 1 : 0);
  }

  private static void or() {
    holds("p=0|t=1", true, 0, 2, 0);
    holds("p=1|t=1", true, 0, 1, 0);
    holds("p=1|t=1", false, 0, 2, 0);
    holds("p=1|t=1|y=0", true, 0, 0, 0);
    holds("p=1|t=1|y=1", false, 0, 0, 0);
    holds("p=0|t=1|y=1", true, 0, 0, 0);
    fault("hot 1 |p=1", 6);
    fault("hot 1 p=1|", 10);
    fault("hot 1 p=1||p=2", 10);
    fault("hot 1 p=1|;need 1", 10);
  }

  private static void and() {
    holds("p=0&t=1", true, 0, 1, 0);
    holds("p=0&t=1", false, 0, 2, 0);
    holds("p=1&t=1", false, 0, 1, 0);
    holds("p=0&t=0&y=0", true, 0, 0, 0);
    holds("p=0&t=0&y=1", false, 0, 0, 0);
    holds("p=1&t=0&y=0", false, 0, 0, 0);
    holds("p=0|p=1&t=4", true, 0, 0, 0);
    holds("t=4&p=1|p=0", true, 0, 0, 0);
    holds("p=0|t=1&y=1|v=9", true, 0, 0, 0);
    holds("p=0|p=0|p=0&p=1", true, 0, 0, 0);
    fault("hot 1 &p=1", 6);
    fault("hot 1 p=1&", 10);
    fault("hot 1 p=1&&p=2", 10);
    fault("hot 1 p=1&|p=2", 10);
    fault("hot 1 p=1|&p=2", 10);
  }

  private static void not() {
    holds("!p=0", false, 0, 0, 0);
    holds("!p=0", true, 1, 0, 0);
    holds("!!p=0", true, 0, 0, 0);
    holds("!!!p=0", false, 0, 0, 0);
    holds("!p=1&t=4", false, 0, 0, 0);
    holds("!p=0|t=0", true, 0, 0, 0);
    holds("!(p=1&t=4)", true, 0, 0, 0);
    holds("!(p=0|t=1)", false, 0, 0, 0);
    holds("p=0&!t=1&y=0", true, 0, 0, 0);
    holds("p=0&!t=0&y=0", false, 0, 0, 0);
    fault("hot 1 !", 7);
    fault("hot 1 !)", 7);
    fault("hot 1 !|p=1", 7);
    fault("hot 1 p=1!p=2", 9);
    fault("hot 1 p!=1", 7);
  }

  private static void brackets() {
    holds("(p=0)", true, 0, 0, 0);
    holds("(p=0|p=1)&t=4", false, 0, 0, 0);
    holds("t=4&(p=1|p=0)", false, 0, 0, 0);
    holds("(p=1|(t=1|(y=1|(v=4))))", true, 0, 0, 0);
    holds("(p=1|(t=1|(y=1|(v=3))))", false, 0, 0, 0);
    holds("p=1|p=0&(t=1|t=0&(y=1|y=0&(v=1|v=4&h=5)))", true, 0, 0, 0);
    holds("p=1|p=0&(t=1|t=0&(y=1|y=0&(v=1|v=4&h=6)))", false, 0, 0, 0);
    fault("hot 1 ()", 7);
    fault("hot 1 (", 7);
    fault("hot 1 (p=1", 10);
    fault("hot 1 (p=1;need 1", 10);
    fault("hot 1 (p=1)(p=2)", 11);
    fault("hot 1 (p=1)p=2", 11);
    fault("hot 1 p=1)", 9);
    fault("hot 1 (p=1))", 11);
    fault("hot 1 )", 6);
  }

  private static void test() {
    fault("hot 1 ", 6);
    fault("hot 1 x=1", 6);
    fault("hot 1 P=1", 6);
    fault("hot 1 =1", 6);
    fault("hot 1 5", 6);
    fault("cold 1 12", 7);
    fault("hot 1 p", 7);
    fault("hot 1 p1", 7);
    fault("hot 1 pt=1", 7);
    fault("hot 1 p=", 8);
    fault("hot 1 p==1", 8);
    fault("hot 1 p<=1", 8);
    fault("hot 1 p=p", 8);
    fault("hot 1 p=-1", 8);
    fault("hot 1 p=123", 10);
    holds("p<99", true, 3, 0, 0);
    holds("p=00", true, 0, 0, 0);
    holds("p=01", true, 1, 0, 0);
    holds("p=10", false, 1, 0, 0);
    holds("t>10", false, 0, 4, 0);
  }

  /** Each letter with each sign, and numbers one below, at and one above what it stands for. */
  private static void compared() {
    int[][] are = {{0, 3, HATER, 4, 5, 7}, {1, 3, UNCLE, 0, 0, 7}, {2, 3, LOVER, 9, 9, 7}, {3, 3, TOLD, 5, 5, 7}};
    for (int p = 0; p < are.length; p++) {
      for (int i = 0; i < 6; i++) {
        char letter = "ptkvhy".charAt(i);
        for (int n = Math.max(0, are[p][i] - 1); n <= are[p][i] + 1; n++) {
          holds(letter + "<" + n, are[p][i] < n, p, 3, 7);
          holds(letter + "=" + n, are[p][i] == n, p, 3, 7);
          holds(letter + ">" + n, are[p][i] > n, p, 3, 7);
        }
      }
    }
  }

  private static void lettersOfHater() {
    int[] kinds = {HATER, UNCLE, LOVER, TOLD};
    int[] vs = {4, 0, 9, 5};
    for (int p = 0; p < 4; p++) {
      for (int n = 0; n < 10; n++) {
        holds("p=" + n, n == p, p, 3, 0);
        holds("k=" + n, n == kinds[p], p, 3, 0);
        holds("v=" + n, n == vs[p], p, 3, 0);
      }
    }
    for (int tree = 0; tree < 5; tree++) {
      holds("t=0" + tree, true, 3, tree, 0);
      holds("t=" + tree, false, 3, (tree + 1) % 5, 0);
    }
  }

  private static void letterOfHate() {
    WassailEnemies x = under("hot 1 h=0;hot 2 h=1;hot 4 h=5;hot 8 h=9;hot 16 h>9");
    x.hater(HATER, 0, 0);
    int[] hates = {0, 9, 10, 19, 20, 49, 50, 59, 60, 89, 90, 99};
    int[] more = {1, 1, 2, 2, 0, 0, 4, 4, 0, 0, 8, 8};
    for (int i = 0; i < hates.length; i++) {
      x.hate(0, 2, hates[i]);
      is("of(0, 22) by " + hates[i], x.of(0, 22), hates[i] + more[i]);
      is("by HATE for that TREE alone: of(0, 21)", x.of(0, 21), 1);
    }
  }

  private static void letterOfYear() {
    for (int year : new int[] {0, 1, 9, 10, 13, 20, 60}) {
      for (int n : new int[] {0, 1, 3, 9, 10, 13, 60}) {
        holds("y=" + n, n == year % 10, 0, 0, year);
      }
    }
  }

  private static void within() {
    under("hot 1 ((((p=1))))");
    under("hot 1 !!!!p=1");
    under("hot 1 !(!(p=1))&!(!(p=1))|((((p=2))))");
    under("hot 1 ((((p=1))));cold 1 !!!!p=1");
    fault("cold 1 (((((p=1)))))", 11);
    fault("cold 1 ((((!p=1))))", 11);
    fault("hot 1 !!!!!p=1", 10);
    fault("hot 1 !!!!(p=1)", 10);
    fault("hot 1 !(!(!p=1))", 10);
    fault("hot 1 ((!(p=1))|(p=1))&((((p=1", 30);
    fault("hot 1 ((((p=1|(p=2)))))", 14);
    fault("hot 1 ((((p=1&!p=2))))", 14);
    fault("hot 1 ((((p=1))))&(((((p=1)))))", 22);
  }

  private static void firstFault() {
    fault("x", 0);
    fault("hot 1 p=1;x", 10);
    fault("hot 1 p=1;hot 1 q=1", 16);
    fault("hot 1 q=1;hot 1 q=1", 6);
    fault("wear 1;need 99;colt", 18);
    fault("hot x" + "x".repeat(95), 4);
    fault("hot 1 p=1" + "|p=1".repeat(22) + "|p?", 99);
  }

  private static void faultAtEnd() {
    fault("", 0);
    fault("need", 4);
    fault("hot 12", 6);
    fault("hot 1 p=1;", 10);
    fault("hot 1 (p=1|", 11);
    fault("hot 1 p=1" + "|p=1".repeat(22) + "&t=", 100);
    fault("hot 11 p=10" + "|p=1".repeat(22) + ";", 100);
    beginnings("hot 1 (p=1|!t=2)", 1);
    beginnings("cold 10 !(k<1&(v>2))", 1);
    beginnings("need 1", 1);
    beginnings("wear 1", 1);
    beginnings("need 12;wear 3;hot 4 y=5", "need 12;wear 3;".length());
  }

  /** A text that is an ORCHARD, and its beginnings from a length on, which are not: all on one object. */
  private static void beginnings(String text, int from) {
    WassailEnemies x = under(text);
    for (int n = from; n < text.length(); n++) {
      String beginning = text.substring(0, n);
      is("orchard() of " + beginning, Due.orchard(x, beginning), -10 - n);
    }
  }

  private static void newest() {
    WassailEnemies x = under("need 11");
    for (int i = 1; i <= 5; i++) {
      is("told(1)", x.told(1), 10 + i);
      is("orchard()", Due.orchard(x, "need 1" + (i + 1)), i);
    }
    is("count(1)", x.count(1), 6);
    is("a seventh: orchard()", Due.orchard(x, "need 17"), FULL);
    is("the sixth holds: told(1)", x.told(1), 16);
    is("count(1)", x.count(1), 6);
    WassailEnemies again = new WassailEnemies();
    again.hater(HATER, 0, 30);
    is("orchard()", Due.orchard(again, "hot 9 p=0;hot 9 p=1;need 1;wear 1"), 0);
    is("orchard()", Due.orchard(again, "hot 1 p=0"), 1);
    is("nothing of the one before holds: of(0, 20)", again.of(0, 20), 31);
    is("nothing of the one before holds: told(1)", again.told(1), 20);
    is("nothing of the one before holds: told(2)", again.told(2), 3);
  }

  private static void without() {
    WassailEnemies x = hating(30);
    for (int t = 0; t < 5; t++) {
      is("of(0, 2" + t + ")", x.of(0, 20 + t), 30);
    }
    is("a fault: orchard()", Due.orchard(x, "hot 9 p=0;x"), -20);
    is("there is still none: of(0, 20)", x.of(0, 20), 30);
  }

  private static void needAndWearWithout() {
    WassailEnemies x = new WassailEnemies();
    is("no ORCHARD: told(1)", x.told(1), 20);
    is("no ORCHARD: told(2)", x.told(2), 3);
    WassailEnemies need = under("hot 1 p=1;need 19");
    is("no WEAR: told(1)", need.told(1), 19);
    is("no WEAR: told(2)", need.told(2), 3);
    WassailEnemies wear = under("wear 4;cold 1 p=1");
    is("no NEED: told(1)", wear.told(1), 20);
    is("no NEED: told(2)", wear.told(2), 4);
  }

  private static void last() {
    WassailEnemies x = under("need 1;need 2;wear 3;wear 0;need 99;hot 7 p=1");
    is("told(1)", x.told(1), 99);
    is("told(2)", x.told(2), 0);
    x.hater(HATER, 0, 99);
    x.lead(0, 0);
    is("99 of 99: told(3)", x.told(3), 1);
    x.hate(0, 0, 98);
    is("98 of 99: told(3)", x.told(3), 0);
  }
}
