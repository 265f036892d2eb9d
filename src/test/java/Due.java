/** Compares answers with those that are due, prints the others, and counts both. */
final class Due {
  /** What is tested now, told ahead of an answer that is not the one due. */
  static String about = "";

  private static int passed = 0;
  private static int failed = 0;

  private Due() {}

  static void is(String call, long got, long want) {
    if (got == want) {
      passed++;
    } else {
      failed++;
      System.out.println("  " + about + call + " answered " + got + ", due is " + want);
    }
  }

  static void holds(String what, boolean is) {
    is(what, is ? 1 : 0, 1);
  }

  /** How many answers were compared. */
  static int compared() {
    return passed + failed;
  }

  /** Feeds a text sign by sign: what the last feed answered. */
  static int feed(WassailEnemies x, String text) {
    int last = 0;
    for (int i = 0; i < text.length(); i++) {
      last = x.feed(text.charAt(i));
    }
    return last;
  }

  static int orchard(WassailEnemies x, String text) {
    feed(x, text);
    return x.orchard();
  }

  /** A new object whose ORCHARD is this text. */
  static WassailEnemies under(String text) {
    WassailEnemies x = new WassailEnemies();
    is("orchard() of " + text, orchard(x, text), 0);
    return x;
  }

  /** Ends a test class: with exit code 1 if an answer was not the one that is due, or there was none. */
  static void end(String name) {
    System.out.println(name + ": " + passed + " answers as due, " + failed + " not");
    if (failed > 0 || passed == 0) {
      System.exit(1);
    }
  }
}
