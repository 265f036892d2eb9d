import java.util.SplittableRandom;

/** Long runs of calls, the same on an object and on the Model; and many texts. Seeds are fixed. */
public final class ModelTest {
  private static final int RUNS = 400, CALLS = 512, TEXTS = 6000;
  private static final int[] EXTREMES = {
    Integer.MIN_VALUE, Integer.MIN_VALUE + 1, -10001, -100, -11, -10, -6, -5, -4, -3, -2, -1, 5, 6, 7, 8, 9, 10, 15, 20, 21,
    25, 35, 50, 60, 61, 99, 100, 127, 128, 9999, 10000, Integer.MAX_VALUE - 1, Integer.MAX_VALUE,
  };

  private final SplittableRandom random;
  private final int seed;
  private WassailEnemies x = new WassailEnemies();
  private Model model = new Model();
  private int calls;

  private ModelTest(int seed) {
    this.seed = seed;
    random = new SplittableRandom(seed);
  }

  public static void main(String[] args) {
    for (int seed = 0; seed < RUNS; seed++) {
      new ModelTest(seed).run();
    }
    new ModelTest(RUNS).texts();
    Due.end("ModelTest");
  }

  private void run() {
    int first = random.nextInt(7);
    for (int i = 0; i < first; i++) {
      call(0);
    }
    if (random.nextInt(4) > 0) {
      text(orchard());
      call(7);
    }
    while (calls < CALLS) {
      int which = random.nextInt(90);
      if (which == 89 && calls < CALLS - 102) {
        text(random.nextInt(3) == 0 ? spoilt(orchard()) : orchard());
        call(7);
      } else {
        call(which % 34 == 0 && random.nextInt(2) == 0 ? 4 : which % 34);
      }
    }
  }

  private void text(String text) {
    for (int i = 0; i < text.length() && calls < CALLS; i++) {
      due("feed", x.feed(text.charAt(i)), model.feed(text.charAt(i)), text.charAt(i));
    }
  }

  /** Most often a number from least to most, and now and then any other. */
  private int pick(int least, int most) {
    if (random.nextInt(12) == 0) {
      return EXTREMES[random.nextInt(EXTREMES.length)];
    }
    return random.nextInt(least, most + 1);
  }

  private int hater() {
    return pick(0, Math.max(0, model.now.haters.size() - 1));
  }

  private int tree() {
    return pick(0, 4);
  }

  private int tens(int what, int... tens) {
    int choice = random.nextInt(tens.length + 1);
    return choice == 0 ? pick(0, what) : tens[choice - 1] + pick(0, 4);
  }

  private void due(String name, long got, long want, long... args) {
    calls++;
    if (got == want) {
      Due.is(name, got, want);
      return;
    }
    StringBuilder call = new StringBuilder("seed " + seed + ", call " + calls + ": " + name + "(");
    for (int i = 0; i < args.length; i++) {
      call.append(i == 0 ? "" : ", ").append(args[i]);
    }
    Due.is(call.append(")").toString(), got, want);
  }

  private void call(int which) {
    if (which < 12) {
      callState(which);
    } else if (which < 23) {
      callAsked(which);
    } else {
      callRest(which);
    }
  }

  private void callState(int which) {
    int a = hater();
    int t = tree();
    int n;
    switch (which) {
      case 0:
        a = pick(0, 6);
        t = pick(0, 9);
        n = pick(0, 99);
        due("hater", x.hater(a, t, n), model.hater(a, t, n), a, t, n);
        break;
      case 1:
        n = tens(3, 10, 20, 30);
        due("of", x.of(a, n), model.of(a, n), a, n);
        break;
      case 2:
        n = pick(0, 99);
        due("hate", x.hate(a, t, n), model.hate(a, t, n), a, t, n);
        break;
      case 3:
        boolean is = random.nextInt(3) == 0;
        due("leave", x.leave(a, is), model.leave(a, is), a, is ? 1 : 0);
        break;
      case 4:
        a = random.nextInt(6) == 0 ? -1 : a;
        due("lead", x.lead(t, a), model.lead(t, a), t, a);
        break;
      case 5:
        t = pick(0, 3);
        n = pick(0, 9);
        due("row", x.row(a, t, n), model.row(a, t, n), a, t, n);
        break;
      case 6:
        n = pick(32, 127);
        due("feed", x.feed(n), model.feed(n), n);
        break;
      case 7:
        due("orchard", x.orchard(), model.orchard());
        break;
      case 8:
        n = tens(6, 10, 20);
        due("told", x.told(n), model.told(n), n);
        break;
      case 9:
        n = random.nextInt(40) == 0 ? pick(0, 60) : pick(0, 3);
        due("pass", x.pass(n), model.pass(n), n);
        break;
      case 10:
        n = pick(0, 60);
        a = tens(0, 10, 20, 25, 30, 35, 40, 45);
        due("on", x.on(n, a), model.on(n, a), n, a);
        break;
      default:
        n = tens(1, 10);
        due("ring", x.ring(n), model.ring(n), n);
        break;
    }
  }

  private void callAsked(int which) {
    int a = hater();
    int t = tree();
    int n = pick(0, 1);
    switch (which) {
      case 12:
        n = pick(1, 3);
        a = pick(-1, 2);
        due("turn", x.turn(t, n, a), model.turn(t, n, a), t, n, a);
        break;
      case 13:
      case 14:
        n = pick(0, 20);
        a = random.nextInt(12) == 0 ? -1 : a;
        boolean bears = random.nextInt(3) > 0;
        due("see", x.see(a, t, n, bears), model.see(a, t, n, bears), a, t, n, bears ? 1 : 0);
        break;
      case 15:
        due("hates", x.hates(a, t, n), model.hates(a, t, n), a, t, n);
        break;
      case 16:
        due("can", x.can(a, n), model.can(a, n), a, n);
        break;
      case 17:
        due("odds", x.odds(t, n), model.odds(t, n), t, n);
        break;
      case 18:
        due("mean", x.mean(t, n), model.mean(t, n), t, n);
        break;
      case 19:
        t = random.nextInt(15) == 0 ? -1 : pick(0, 3);
        n = t == 3 ? 10 * tree() + (random.nextInt(6) == 0 ? 9 : hater()) : a;
        due("plan", x.plan(t, n), model.plan(t, n), t, n);
        break;
      case 20:
        due("ends", x.ends(n), model.ends(n), n);
        break;
      case 21:
        t = random.nextInt(10) == 0 ? -1 : t;
        n = random.nextInt(4) > 0 && t >= 0 && t < 5 ? model.now.bore[t] : pick(0, 9999);
        due("book", x.book(t, n), model.book(t, n), t, n);
        break;
      default:
        due("looked", x.looked(), model.looked());
        break;
    }
  }

  private void callRest(int which) {
    int a = hater();
    int tape = random.nextInt(3) == 0 ? pick(0, 5) : random.nextInt(2);
    int i = pick(0, 9);
    switch (which) {
      case 23:
        write(tape, i);
        due("judge", x.judge(tape, i), model.judge(tape, i), tape, i);
        break;
      case 24:
        due("image", x.image(), model.image());
        break;
      case 25:
        due("undo", x.undo(), model.undo());
        break;
      case 26:
        int act = pick(0, 2);
        int arg = random.nextBoolean() ? random.nextInt() : pick(-20, 20);
        due("act", x.act(a, act, arg), model.act(a, act, arg), a, act, arg);
        break;
      case 27:
        i = pick(0, 12);
        due("trace", x.trace(i), model.trace(i), i);
        break;
      case 28:
        i = pick(0, 6);
        due("taken", x.taken(a, i), model.taken(a, i), a, i);
        break;
      case 29:
        i = pick(0, 6);
        due("count", x.count(i), model.count(i), i);
        break;
      case 30:
        int sort = random.nextInt(3) == 0 ? pick(-1, 4) : 3;
        i = pick(0, random.nextInt(4) == 0 ? 60 : 10);
        due("tape", x.tape(tape, sort, i), model.tape(tape, sort, i), tape, sort, i);
        break;
      case 31:
        long v = random.nextBoolean() ? random.nextLong() : random.nextInt(-2, 3);
        due("item", x.item(tape, i, v), model.item(tape, i, v), tape, i, v);
        break;
      case 32:
        due("read", x.read(tape, i), model.read(tape, i), tape, i);
        break;
      default:
        int other = random.nextInt(3) == 0 ? pick(0, 5) : random.nextInt(2);
        int j = pick(0, 9);
        int n = pick(0, 6);
        due("shift", x.shift(tape, i, other, j, n), model.shift(tape, i, other, j, n), tape, i, other, j, n);
        break;
    }
  }

  /** Writes BORE as it is on a TAPE, up to a TREE or the end, so that judging it says something. */
  private void write(int tape, int from) {
    int trees = random.nextInt(7);
    for (int t = 0; t < trees && t < 5 && from >= 0 && from < 60 && calls < CALLS - 1; t++) {
      long v = model.now.bore[t] + (random.nextInt(12) == 0 ? 1 : 0);
      due("item", x.item(tape, from + t, v), model.item(tape, from + t, v), tape, from + t, v);
    }
  }

  // ---- texts

  private void texts() {
    for (int i = 0; i < TEXTS; i++) {
      String text = orchard();
      for (int j = random.nextInt(4); j > 0; j--) {
        text = spoilt(text);
      }
      x = new WassailEnemies();
      int fault = Model.fault(text);
      Due.is("orchard() of " + text, Due.orchard(x, text), fault < 0 ? 0 : -10 - fault);
    }
  }

  /** An ORCHARD's text, of 100 bytes at most. */
  private String orchard() {
    StringBuilder text = new StringBuilder();
    int clauses = 1 + random.nextInt(random.nextInt(8) == 0 ? 11 : 5);
    for (int i = 0; i < clauses; i++) {
      String clause = clause();
      if (text.length() + clause.length() < 100) {
        text.append(i == 0 ? "" : ";").append(clause);
      }
    }
    return text.toString();
  }

  private String clause() {
    switch (random.nextInt(8)) {
      case 0:
        return "need " + number(40);
      case 1:
        return "wear " + number(12);
      case 2:
      case 3:
      case 4:
        return "cold " + number(30) + " " + any(0);
      default:
        return "hot " + number(50) + " " + any(0);
    }
  }

  private String number(int below) {
    int n = random.nextInt(random.nextInt(6) == 0 ? 100 : below);
    return n < 10 && random.nextInt(8) == 0 ? "0" + n : "" + n;
  }

  private String any(int within) {
    String e = all(within);
    return random.nextInt(4) == 0 ? e + "|" + any(within) : e;
  }

  private String all(int within) {
    String e = one(within);
    return random.nextInt(4) == 0 ? e + "&" + all(within) : e;
  }

  private String one(int within) {
    int choice = random.nextInt(9);
    if (within < 5 && choice == 0) {
      return "!" + one(within + (random.nextInt(9) > 0 || within < 4 ? 1 : 0));
    }
    if (within < 4 && choice < 3 || within == 4 && random.nextInt(60) == 0) {
      return "(" + any(within + 1) + ")";
    }
    int letter = random.nextInt(6);
    int[] below = {6, 5, 7, 10, 10, 10};
    return "ptkvhy".charAt(letter) + "" + "<=>".charAt(random.nextInt(3)) + number(below[letter]);
  }

  private String spoilt(String text) {
    StringBuilder spoilt = new StringBuilder(text);
    String signs = "hotcldneawr  0123456789ptkvhy<=>|&!()();;\u0000\u007f";
    int at = random.nextInt(text.length() + 1);
    char sign = signs.charAt(random.nextInt(signs.length()));
    int choice = random.nextInt(4);
    if (choice == 0 && text.length() < 100) {
      spoilt.insert(at, sign);
    } else if (choice == 1 && at < text.length()) {
      spoilt.deleteCharAt(at);
    } else if (choice == 2 && at < text.length()) {
      spoilt.setCharAt(at, sign);
    } else {
      spoilt.setLength(at);
    }
    return spoilt.toString();
  }
}
