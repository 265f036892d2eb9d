import java.util.ArrayList;
import java.util.List;

/**
 * The document once more, in another way and without regard to speed: rows are tried one by one,
 * an ORCHARD stays a text, and a FAULT is found by trying what a text could go on with.
 */
final class Model {
  static final int NONE = -1, BAD = -2, STATE = -3, FULL = -4, NO_SUCH = -10001;
  static final long NO = Long.MIN_VALUE;
  static final int[] ABOVE = {-1, 0, 0, 0, 1, 2, 3};

  static final class H {
    int kind;
    int v;
    boolean gone;
    int[] hate = new int[5];
    int[] row = new int[4];

    H copy() {
      H h = new H();
      h.kind = kind;
      h.v = v;
      h.gone = gone;
      h.hate = hate.clone();
      h.row = row.clone();
      return h;
    }

    boolean isA(int k) {
      for (int at = kind; at >= 0; at = ABOVE[at]) {
        if (at == k) {
          return true;
        }
      }
      return false;
    }
  }

  static final class S {
    List<H> haters = new ArrayList<>();
    int[] bore = new int[5];
    int[] leader = {-5, -5, -5, -5, -5};
    int year;
    List<int[]> seen = new ArrayList<>();
    List<int[]> plan = new ArrayList<>();
    List<int[]> book = new ArrayList<>();
    String orchard = "";

    S copy() {
      S s = new S();
      for (H h : haters) {
        s.haters.add(h.copy());
      }
      s.bore = bore.clone();
      s.leader = leader.clone();
      s.year = year;
      s.seen.addAll(seen);
      s.plan.addAll(plan);
      s.book.addAll(book);
      s.orchard = orchard;
      return s;
    }

    int lastOf(String word, int without) {
      int n = without;
      for (String clause : orchard.split(";")) {
        if (clause.startsWith(word + " ")) {
          n = Integer.parseInt(clause.split(" ")[1]);
        }
      }
      return n;
    }

    int sum(int p, int t) {
      H h = haters.get(p);
      int sum = h.hate[t];
      for (String clause : orchard.split(";")) {
        String[] part = clause.split(" ");
        if (part.length == 3 && any(part[2], p, t, h)) {
          sum += (part[0].equals("hot") ? 1 : -1) * Integer.parseInt(part[1]);
        }
      }
      return sum;
    }

    private boolean any(String e, int p, int t, H h) {
      int at = outside(e, '|');
      return at < 0 ? all(e, p, t, h) : all(e.substring(0, at), p, t, h) | any(e.substring(at + 1), p, t, h);
    }

    private boolean all(String e, int p, int t, H h) {
      int at = outside(e, '&');
      return at < 0 ? one(e, p, t, h) : one(e.substring(0, at), p, t, h) & all(e.substring(at + 1), p, t, h);
    }

    private boolean one(String e, int p, int t, H h) {
      if (e.startsWith("!")) {
        return !one(e.substring(1), p, t, h);
      }
      if (e.startsWith("(")) {
        return any(e.substring(1, e.length() - 1), p, t, h);
      }
      int n = Integer.parseInt(e.substring(2));
      int is;
      switch (e.charAt(0)) {
        case 'p': is = p; break;
        case 't': is = t; break;
        case 'k': is = h.kind; break;
        case 'v': is = h.v; break;
        case 'h': is = h.hate[t] / 10; break;
        default: is = year % 10; break;
      }
      int compared = Integer.compare(is, n);
      return compared == "<=>".indexOf(e.charAt(1)) - 1;
    }

    int force(int p, int t) {
      H h = haters.get(p);
      int sum = sum(p, t);
      int uncle = sum + (t == 1 || t == 3 ? h.v : 0);
      int lad = h.hate[t] >= 50 ? sum + sum : sum;
      int lover = 50 - sum;
      int[] all = {
        sum, uncle, lad, lover, year % 2 == 0 ? uncle : (uncle - uncle % 2) / 2, lad - year % 10, lover + h.row[year % 4],
      };
      return all[h.kind];
    }

    boolean bears(int p, int t) {
      return !haters.get(p).gone && force(p, t) >= lastOf("need", 20);
    }

    int bits() {
      int bits = 0;
      for (int t = 0; t < 5; t++) {
        bits += leader[t] >= 0 && bears(leader[t], t) ? 1 << t : 0;
      }
      return bits;
    }

    void go() {
      int bits = bits();
      for (int t = 0; t < 5; t++) {
        if ((bits >> t & 1) == 1) {
          bore[t]++;
          int[] hate = haters.get(leader[t]).hate;
          hate[t] = Math.max(0, hate[t] - lastOf("wear", 3));
        }
      }
      year++;
    }

    S on(int n) {
      S s = copy();
      for (int i = 0; i < n; i++) {
        s.go();
      }
      return s;
    }

    void lead(int t, int p) {
      for (int i = 0; i < 5; i++) {
        if (leader[i] == p) {
          leader[i] = -5;
        }
      }
      leader[t] = p;
    }
  }

  static int outside(String e, char sign) {
    int open = 0;
    for (int i = 0; i < e.length(); i++) {
      open += e.charAt(i) == '(' ? 1 : e.charAt(i) == ')' ? -1 : 0;
      if (open == 0 && e.charAt(i) == sign) {
        return i;
      }
    }
    return -1;
  }

  // ---- whether a text is an ORCHARD, and where its FAULT is

  static boolean isOrchard(String text) {
    String[] clauses = text.split(";", -1);
    if (clauses.length > 10) {
      return false;
    }
    for (String clause : clauses) {
      boolean plain = clause.matches("(need|wear) [0-9]{1,2}");
      boolean warm = clause.matches("(hot|cold) [0-9]{1,2} [^ ]+");
      if (!plain && !(warm && isAny(clause.split(" ")[2], 0))) {
        return false;
      }
    }
    return true;
  }

  private static boolean isAny(String e, int within) {
    int at = outside(e, '|');
    return at < 0 ? isAll(e, within) : isAll(e.substring(0, at), within) && isAny(e.substring(at + 1), within);
  }

  private static boolean isAll(String e, int within) {
    int at = outside(e, '&');
    return at < 0 ? isOne(e, within) : isOne(e.substring(0, at), within) && isAll(e.substring(at + 1), within);
  }

  private static boolean isOne(String e, int within) {
    if (e.startsWith("!")) {
      return within < 4 && isOne(e.substring(1), within + 1);
    }
    if (e.startsWith("(")) {
      return within < 4 && e.endsWith(")") && isAny(e.substring(1, e.length() - 1), within + 1);
    }
    return e.matches("[ptkvhy][<=>][0-9]{1,2}");
  }

  private static final String[] WHOLE = {"hot 1 p=1", "cold 1 p=1", "need 1", "wear 1"};

  static boolean beginsOne(String text) {
    for (String whole : WHOLE) {
      for (int i = 0; i <= whole.length(); i++) {
        String more = whole.substring(i);
        for (int close = 0; close <= 4; close++) {
          if (isOrchard(text + more + ")".repeat(close))) {
            return true;
          }
        }
      }
    }
    return false;
  }

  /** The FAULT, or -1: what begins an ORCHARD does so with each of its beginnings. */
  static int fault(String text) {
    if (isOrchard(text)) {
      return -1;
    }
    int good = 0;
    int bad = text.length() + 1;
    while (good + 1 < bad) {
      int middle = (good + bad) / 2;
      if (beginsOne(text.substring(0, middle))) {
        good = middle;
      } else {
        bad = middle;
      }
    }
    return good;
  }

  // ---- the calls

  S now = new S();
  S image;
  StringBuilder text = new StringBuilder();
  int orchards;
  List<Integer> trace = new ArrayList<>();
  Object[] tapes = new Object[6];

  boolean has(int p) {
    return p >= 0 && p < now.haters.size();
  }

  static boolean in(int n, int least, int most) {
    return n >= least && n <= most;
  }

  int hater(int kind, int v, int hate) {
    if (!in(kind, 0, 6)) return NONE;
    if (!in(v, 0, 9) || !in(hate, 0, 99)) return BAD;
    if (now.haters.size() == 6) return FULL;
    H h = new H();
    h.kind = kind;
    h.v = v;
    for (int t = 0; t < 5; t++) h.hate[t] = hate;
    now.haters.add(h);
    return now.haters.size() - 1;
  }

  int of(int p, int what) {
    if (!has(p)) return NO_SUCH;
    H h = now.haters.get(p);
    if (what == 0) return h.kind;
    if (what == 1) return h.v;
    if (what == 2) return h.gone ? 1 : 0;
    if (what == 3) {
      for (int t = 0; t < 5; t++) if (now.leader[t] == p) return t;
      return -5;
    }
    for (int t = 0; t < 5; t++) {
      if (what == 10 + t) return h.hate[t];
      if (what == 20 + t) return now.force(p, t);
      if (what == 30 + t) return lasts(p, t);
    }
    return NO_SUCH;
  }

  private int lasts(int p, int t) {
    S s = now.copy();
    s.lead(t, p);
    int n = 0;
    while (n < 60 && (s.bits() >> t & 1) == 1) {
      s.go();
      n++;
    }
    return n;
  }

  int hate(int p, int t, int n) {
    if (!has(p) || !in(t, 0, 4)) return NONE;
    if (!in(n, 0, 99)) return BAD;
    int was = now.haters.get(p).hate[t];
    now.haters.get(p).hate[t] = n;
    return was;
  }

  int lead(int t, int p) {
    if (!in(t, 0, 4) || p != -1 && !has(p)) return NONE;
    int was = now.leader[t];
    if (p == -1) now.leader[t] = -5;
    else now.lead(t, p);
    return was;
  }

  int leave(int p, boolean is) {
    if (!has(p)) return NONE;
    int was = now.haters.get(p).gone ? 1 : 0;
    now.haters.get(p).gone = is;
    return was;
  }

  int row(int p, int part, int n) {
    if (!has(p) || !in(part, 0, 3)) return NONE;
    if (!in(n, 0, 9)) return BAD;
    if (now.haters.get(p).kind != 6) return STATE;
    int was = now.haters.get(p).row[part];
    now.haters.get(p).row[part] = n;
    return was;
  }

  int feed(int sign) {
    if (!in(sign, 0, 127)) return BAD;
    if (text.length() == 100) return FULL;
    text.append((char) sign);
    return text.length();
  }

  int orchard() {
    if (orchards == 6) return FULL;
    String all = text.toString();
    text.setLength(0);
    int fault = fault(all);
    if (fault >= 0) return -10 - fault;
    now.orchard = all;
    return orchards++;
  }

  int told(int what) {
    if (what == 0) return now.year;
    if (what == 1) return now.lastOf("need", 20);
    if (what == 2) return now.lastOf("wear", 3);
    if (what == 3) return now.bits();
    if (what == 4) return now.bore[0] + now.bore[1] + now.bore[2] + now.bore[3] + now.bore[4];
    if (what == 5 || what == 6) return worst()[what - 5];
    if (in(what, 10, 14)) return now.bore[what - 10];
    if (in(what, 20, 24)) return now.leader[what - 20];
    return NONE;
  }

  private int[] worst() {
    int[] worst = {-5, -5};
    for (int p = 0; p < now.haters.size(); p++) {
      if (!now.haters.get(p).gone) {
        S s = now.copy();
        s.haters.get(p).gone = true;
        int bear = new Ring(s).most;
        if (worst[0] == -5 || bear < worst[1]) {
          worst = new int[] {p, bear};
        }
      }
    }
    return worst;
  }

  int pass(int n) {
    if (!in(n, 0, 60)) return BAD;
    if (now.year + n > 9999) return STATE;
    now = now.on(n);
    return now.year;
  }

  int on(int n, int what) {
    boolean ofHate = what >= 20 && what < 20 + 5 * now.haters.size();
    if (what != 0 && !in(what, 10, 14) && !ofHate) return NONE;
    if (!in(n, 0, 60)) return BAD;
    S s = now.on(n);
    if (what == 0) return s.bits();
    return ofHate ? s.haters.get((what - 20) / 5).hate[(what - 20) % 5] : s.bore[what - 10];
  }

  /** All ways, in the order of their rows. */
  static final class Ring {
    final S s;
    final int[] row = new int[5];
    int[] best;
    int most = -1;
    int greatest;
    final int[][] force = new int[6][5];
    final boolean[][] bears = new boolean[6][5];

    Ring(S s) {
      this.s = s;
      for (int p = 0; p < s.haters.size(); p++) {
        for (int t = 0; t < 5; t++) {
          force[p][t] = s.force(p, t);
          bears[p][t] = s.bears(p, t);
        }
      }
      give(0);
    }

    private void give(int t) {
      if (t == 5) {
        look();
        return;
      }
      for (int p = 0; p < 10; p++) {
        boolean free = p == 9 || p < s.haters.size() && !s.haters.get(p).gone;
        for (int i = 0; i < t; i++) {
          free &= p == 9 || row[i] != p;
        }
        if (free) {
          row[t] = p;
          give(t + 1);
        }
      }
    }

    private void look() {
      int many = 0;
      int sum = 0;
      for (int t = 0; t < 5; t++) {
        if (row[t] != 9 && bears[row[t]][t]) {
          many++;
          sum += force[row[t]][t];
        }
      }
      if (many > most || many == most && sum > greatest) {
        most = many;
        greatest = sum;
        best = row.clone();
      }
    }
  }

  int ring(int what) {
    if (what != 0 && what != 1 && !in(what, 10, 14)) return NO_SUCH;
    Ring ring = new Ring(now);
    if (what == 0) return ring.most;
    if (what == 1) return ring.greatest;
    return ring.best[what - 10] == 9 ? -5 : ring.best[what - 10];
  }

  int turn(int t, int n, int k) {
    if (!in(t, 0, 4) || !in(k, -1, 2)) return NONE;
    if (!in(n, 1, 3)) return BAD;
    if (now.haters.isEmpty() || k >= n) return -5;
    int[] best = null;
    int most = -1;
    int many = now.haters.size();
    for (int a = 0; a < many; a++) {
      for (int b = 0; b < (n > 1 ? many : 1); b++) {
        for (int c = 0; c < (n > 2 ? many : 1); c++) {
          int[] row = {a, b, c};
          S s = now.copy();
          for (int i = 0; i < n; i++) {
            s.lead(t, row[i]);
            s.go();
          }
          int bears = s.bore[t] - now.bore[t];
          if (bears > most) {
            most = bears;
            best = row;
          }
        }
      }
    }
    return k == -1 ? most : best[k];
  }

  int see(int p, int t, int n, boolean bears) {
    if (p == -1) {
      now.seen.clear();
      return 0;
    }
    if (!has(p) || !in(t, 0, 4)) return NONE;
    if (!in(n, 0, 20)) return BAD;
    if (now.seen.size() == 5) return FULL;
    now.seen.add(new int[] {p, t, n, bears ? 1 : 0});
    return now.seen.size();
  }

  private boolean asSeen(S s, int p, int t) {
    for (int[] seen : now.seen) {
      if (seen[0] == p && (t < 0 || seen[1] == t)) {
        S then = s.copy();
        then.year += seen[2];
        if (then.bears(p, seen[1]) != (seen[3] == 1)) {
          return false;
        }
      }
    }
    return true;
  }

  int hates(int p, int t, int what) {
    if (!has(p) || !in(t, 0, 4) || !in(what, 0, 1)) return NONE;
    List<Integer> all = new ArrayList<>();
    for (int n = 0; n < 100; n++) {
      S s = now.copy();
      s.haters.get(p).hate[t] = n;
      if (asSeen(s, p, t)) all.add(n);
    }
    return what == 0 ? all.size() : all.isEmpty() ? -5 : all.get(0);
  }

  int can(int p, int what) {
    if (!has(p) || !in(what, 0, 1)) return NONE;
    List<Integer> all = new ArrayList<>();
    for (int v = 0; v < 10; v++) {
      S s = now.copy();
      s.haters.get(p).v = v;
      if (asSeen(s, p, -1)) all.add(v);
    }
    return what == 0 ? all.size() : all.isEmpty() ? -5 : all.get(0);
  }

  private long fraction(long above, int part) {
    long below = now.haters.size();
    long a = above;
    long b = below;
    while (b != 0) {
      long rest = a % b;
      a = b;
      b = rest;
    }
    return part == 0 ? above / a : below / a;
  }

  long odds(int t, int part) {
    if (!in(t, 0, 4) || !in(part, 0, 1) || now.haters.isEmpty()) return NO;
    int bear = 0;
    for (int p = 0; p < now.haters.size(); p++) bear += now.bears(p, t) ? 1 : 0;
    return fraction(bear, part);
  }

  long mean(int t, int part) {
    if (!in(t, 0, 4) || !in(part, 0, 1) || now.haters.isEmpty()) return NO;
    int hate = 0;
    for (H h : now.haters) hate += h.hate[t];
    return fraction(hate, part);
  }

  int plan(int what, int n) {
    if (what == -1) {
      now.plan.clear();
      return 0;
    }
    if (!in(what, 0, 3)) return NONE;
    if ((what == 1 || what == 2) && !has(n)) return NONE;
    if (what == 3 && (!in(n, 0, 49) || n % 10 != 9 && !has(n % 10))) return NONE;
    if (now.plan.size() == 10) return FULL;
    now.plan.add(new int[] {what, n});
    return now.plan.size();
  }

  int ends(int what) {
    if (!in(what, 0, 1)) return NONE;
    S s = now.copy();
    for (int[] row : now.plan) {
      if (row[0] == 0) s.go();
      else if (row[0] == 3 && row[1] % 10 == 9) s.leader[row[1] / 10] = -5;
      else if (row[0] == 3) s.lead(row[1] / 10, row[1] % 10);
      else s.haters.get(row[1]).gone = row[0] == 1;
    }
    int all = 0;
    for (int t = 0; t < 5; t++) {
      if (what == 0) all += s.bore[t];
      else for (H h : s.haters) all += h.hate[t];
    }
    return all;
  }

  int book(int t, int bore) {
    if (t == -1) {
      now.book.clear();
      return 0;
    }
    if (!in(t, 0, 4)) return NONE;
    if (!in(bore, 0, 9999)) return BAD;
    if (now.book.size() == 8) return FULL;
    now.book.add(new int[] {t, bore});
    return now.book.size();
  }

  int looked() {
    for (int[] row : now.book) {
      if (now.bore[row[0]] != row[1]) return now.book.indexOf(row);
    }
    return -5;
  }

  int judge(int tape, int i) {
    if (!in(tape, 0, 5)) return NONE;
    if (tapes[tape] == null) return 100;
    if (!(tapes[tape] instanceof long[])) return -12;
    long[] row = (long[]) tapes[tape];
    if (i < 0 || i >= row.length) return 100;
    int looked = 0;
    for (int at = i; at < row.length && looked < 5; at++) {
      if (row[at] != now.bore[looked]) return looked;
      looked++;
    }
    return looked < 5 ? 100 + looked : -5;
  }

  int image() {
    image = now.copy();
    return now.haters.size();
  }

  int undo() {
    if (image == null) return STATE;
    now = image.copy();
    return now.haters.size();
  }

  int act(int p, int act, int x) {
    trace.clear();
    if (!has(p) || !in(act, 0, 2)) return 0;
    return body(p, now.haters.get(p).kind, act, x);
  }

  /** By KIND and act the body, or 0: then that of the next KIND above. */
  private static final int[][] BODIES = {
    {10, 11, 12}, {0, 20, 0}, {30, 0, 0}, {0, 0, 40}, {50, 51, 0}, {0, 0, 60}, {71, 70, 0},
  };

  private int body(int p, int kind, int act, int x) {
    H h = now.haters.get(p);
    int up = ABOVE[kind];
    if (BODIES[kind][act] == 0) {
      return body(p, up, act, x);
    }
    trace.add(BODIES[kind][act]);
    switch (BODIES[kind][act]) {
      case 10: return x + p;
      case 11: return body(p, h.kind, 0, x) - h.v;
      case 12: return body(p, h.kind, 1, x) * 2;
      case 20: return body(p, up, 1, x) ^ 6;
      case 30: return body(p, up, 0, x * 3);
      case 40: {
        int first = body(p, up, 2, x);
        return first + body(p, h.kind, 1, 1);
      }
      case 50: return -body(p, up, 0, x);
      case 51: return body(p, up, 1, x + 1);
      case 60: return body(p, up, 2, x - p);
      case 70: {
        int first = body(p, up, 1, x);
        return first + body(p, up, 0, 2);
      }
      default: return body(p, up, 0, x) ^ h.v;
    }
  }

  int trace(int i) {
    return in(i, 0, Math.min(20, trace.size()) - 1) ? trace.get(i) : NONE;
  }

  int taken(int p, int k) {
    if (!in(k, 0, 6)) return BAD;
    if (!has(p)) return -11;
    return now.haters.get(p).isA(k) ? now.haters.get(p).kind : -12;
  }

  int count(int what) {
    int[] all = {
      now.haters.size(), orchards, now.seen.size(), now.plan.size(), now.book.size(), text.length(), trace.size(),
    };
    return in(what, 0, 6) ? all[what] : BAD;
  }

  int tape(int tape, int sort, int n) {
    if (!in(tape, 0, 5)) return NONE;
    if (sort == -1) {
      tapes[tape] = null;
      return 1;
    }
    if (!in(sort, 0, 4) || n > 60) return BAD;
    if (n < 0) return -14;
    Object[] rows = {new byte[n], new short[n], new int[n], new long[n], new boolean[n]};
    tapes[tape] = rows[sort];
    return 1;
  }

  int item(int tape, int i, long v) {
    if (!in(tape, 0, 5)) return NONE;
    Object row = tapes[tape];
    if (row == null) return -11;
    if (!in(i, 0, java.lang.reflect.Array.getLength(row) - 1)) return -13;
    if (row instanceof byte[]) ((byte[]) row)[i] = (byte) v;
    else if (row instanceof short[]) ((short[]) row)[i] = (short) v;
    else if (row instanceof int[]) ((int[]) row)[i] = (int) v;
    else if (row instanceof long[]) ((long[]) row)[i] = v;
    else ((boolean[]) row)[i] = v != 0;
    return 1;
  }

  long read(int tape, int i) {
    if (!in(tape, 0, 5) || tapes[tape] == null) return NO;
    Object row = tapes[tape];
    if (!in(i, 0, java.lang.reflect.Array.getLength(row) - 1)) return NO;
    if (row instanceof boolean[]) return ((boolean[]) row)[i] ? 1 : 0;
    return java.lang.reflect.Array.getLong(row, i);
  }

  int shift(int tape, int i, int other, int j, int n) {
    if (!in(tape, 0, 5) || !in(other, 0, 5)) return NONE;
    if (tapes[tape] == null || tapes[other] == null) return -11;
    if (tapes[tape].getClass() != tapes[other].getClass()) return -12;
    try {
      System.arraycopy(tapes[tape], i, tapes[other], j, n);
    } catch (IndexOutOfBoundsException beyond) {
      return -13;
    }
    return n;
  }
}
