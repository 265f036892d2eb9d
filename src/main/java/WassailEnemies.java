import java.util.ArrayList;
import java.util.Arrays;

/**
 * Five trees that bear if who sings at them hates them enough. ../shared/DOC.md says what each call
 * answers; words in capitals are its terms.
 */
public final class WassailEnemies {
  public static final int NONE = -1, BAD = -2, STATE = -3, FULL = -4;
  public static final long NO = Long.MIN_VALUE;

  /** Answers -5: nobody, nowhere, no such row, none of them. */
  private static final int ABSENT = -5;

  /** NONE, where an answer may be below 0 itself. */
  private static final int NO_SUCH = -10001;

  private static final int NOTHING = -11, CAST = -12, PLACE = -13, SIZE = -14;

  private static final int TREES = 5, MOST_HATERS = 6, KINDS = 7, PARTS = 4;
  private static final int MOST_V = 9, MOST_HATE = 99, MOST_ROW = 9;
  private static final int MOST_YEAR = 9999, MOST_BORE = 9999, MOST_YEARS = 60;
  private static final int MOST_TURNS = 3, MOST_SEEN_YEARS = 20;
  private static final int MOST_SEEN = 5, MOST_PLAN = 10, MOST_BOOK = 8;
  private static final int MOST_SIGN = 127, MOST_SIGNS = 100, MOST_ORCHARDS = 6;
  private static final int MOST_CLAUSES = 10, MOST_WITHIN = 4;
  private static final int NEED_WITHOUT = 20, WEAR_WITHOUT = 3;
  private static final int MOST_TRACE = 20, TAPES = 6, SORTS = 5, MOST_ITEMS = 60;

  private static final int BYTES = 0, SHORTS = 1, INTS = 2, LONGS = 3;
  private static final int A_YEAR = 0, IS_GONE = 1, IS_THERE = 2, HAS_LEADER = 3;
  private static final int PLAN_NOBODY = 9;
  private static final String LETTERS = "ptkvhy", SIGNS = "<=>";
  private static final int NOT = -1, AND = -2, OR = -3, HOT = -4, COLD = -5;

  /** What a TREE that BEARS counts for in a RING: far above what all FORCE can be together. */
  private static final int BEARING = 1000000;

  private final World now = new World();
  private final World image = new World();

  /** What is only asked goes on in here, so that it changes nothing. */
  private final World asked = new World();

  private boolean imaged;
  private final Reader reader = new Reader();
  private final Orchard[] orchards = new Orchard[MOST_ORCHARDS];
  private int orchardCount;
  private final ArrayList<Integer> trace = new ArrayList<>();

  /** By HATER and TREE: BEARING and the FORCE, or 0 if that TREE does not BEAR with that HATER. */
  private final int[][] worth = new int[MOST_HATERS][TREES];

  /** By TREE and the HATERS given already (bits): what that TREE and those behind it come to. */
  private final int[][] best = new int[TREES + 1][1 << MOST_HATERS];

  private final int[] sorts = new int[TAPES];
  private final int[] sizes = new int[TAPES];
  private final long[][] items = new long[TAPES][MOST_ITEMS];

  public WassailEnemies() {
    for (int i = 0; i < MOST_ORCHARDS; i++) {
      orchards[i] = new Orchard();
    }
    Arrays.fill(sorts, ABSENT);
  }

  // ---- haters, orchards, rings

  public int hater(int kind, int v, int hate) {
    if (kind < 0 || kind >= KINDS) {
      return NONE;
    }
    if (v < 0 || v > MOST_V || !isHate(hate)) {
      return BAD;
    }
    if (now.haterCount >= MOST_HATERS) {
      return FULL;
    }
    return now.welcome(newHater(kind, now.haterCount, v), hate);
  }

  public int of(int hater, int what) {
    if (!now.has(hater)) {
      return NO_SUCH;
    }
    switch (what) {
      case 0:
        return now.haters[hater].kind;
      case 1:
        return now.haters[hater].v;
      case 2:
        return bit(now.gone[hater]);
      case 3:
        return now.treeOf(hater);
      default:
        return ofTree(hater, what / 10, what % 10);
    }
  }

  private int ofTree(int hater, int what, int tree) {
    if (!isTree(tree)) {
      return NO_SUCH;
    }
    switch (what) {
      case 1:
        return now.hate[hater][tree];
      case 2:
        return now.force(hater, tree);
      case 3:
        return lasts(hater, tree);
      default:
        return NO_SUCH;
    }
  }

  public int hate(int hater, int tree, int n) {
    if (!now.has(hater) || !isTree(tree)) {
      return NONE;
    }
    if (!isHate(n)) {
      return BAD;
    }
    int was = now.hate[hater][tree];
    now.hate[hater][tree] = n;
    return was;
  }

  public int lead(int tree, int hater) {
    if (!isTree(tree) || hater != -1 && !now.has(hater)) {
      return NONE;
    }
    int was = now.leaders[tree];
    now.giveLeader(tree, hater == -1 ? ABSENT : hater);
    return was;
  }

  public int leave(int hater, boolean is) {
    if (!now.has(hater)) {
      return NONE;
    }
    boolean was = now.gone[hater];
    now.gone[hater] = is;
    return bit(was);
  }

  public int row(int hater, int part, int n) {
    if (!now.has(hater) || part < 0 || part >= PARTS) {
      return NONE;
    }
    if (n < 0 || n > MOST_ROW) {
      return BAD;
    }
    if (!(now.haters[hater] instanceof Told)) {
      return STATE;
    }
    int was = now.rows[hater][part];
    now.rows[hater][part] = n;
    return was;
  }

  public int feed(int sign) {
    if (sign < 0 || sign > MOST_SIGN) {
      return BAD;
    }
    return reader.append(sign);
  }

  public int orchard() {
    if (orchardCount >= MOST_ORCHARDS) {
      return FULL;
    }
    Orchard orchard = orchards[orchardCount];
    boolean read = reader.readClauses(orchard);
    reader.length = 0;
    if (!read) {
      return -10 - reader.at;
    }
    now.orchard = orchard;
    orchardCount++;
    return orchardCount - 1;
  }

  public int told(int what) {
    switch (what) {
      case 0:
        return now.year;
      case 1:
        return now.need();
      case 2:
        return now.wear();
      case 3:
        return now.bearing();
      case 4:
        return now.allBore();
      case 5:
        return worst();
      case 6:
        return bearingWithout(worst());
      default:
        return toldOfTree(what / 10, what % 10);
    }
  }

  private int toldOfTree(int what, int tree) {
    if (!isTree(tree)) {
      return NONE;
    }
    switch (what) {
      case 1:
        return now.bore[tree];
      case 2:
        return now.leaders[tree];
      default:
        return NONE;
    }
  }

  // ---- years

  public int pass(int n) {
    if (!isYears(n)) {
      return BAD;
    }
    if (now.year + n > MOST_YEAR) {
      return STATE;
    }
    now.goYears(n);
    return now.year;
  }

  public int on(int n, int what) {
    int tree = what % 10;
    boolean ofBore = what / 10 == 1 && isTree(tree);
    int pair = what - 20;
    boolean ofHate = what >= 20 && now.has(pair / TREES);
    if (what != 0 && !ofBore && !ofHate) {
      return NONE;
    }
    if (!isYears(n)) {
      return BAD;
    }
    asked.goFrom(now);
    asked.goYears(n);
    if (ofBore) {
      return asked.bore[tree];
    }
    return ofHate ? asked.hate[pair / TREES][pair % TREES] : asked.bearing();
  }

  private int lasts(int hater, int tree) {
    asked.goFrom(now);
    int years = 0;
    while (years < MOST_YEARS && asked.goAt(tree, hater)) {
      asked.year++;
      years++;
    }
    return years;
  }

  // ---- rings, turns

  public int ring(int what) {
    int tree = what - 10;
    if (what != 0 && what != 1 && !(what >= 10 && isTree(tree))) {
      return NO_SUCH;
    }
    weigh();
    int here = now.present();
    int most = fillBest(here);
    if (what == 0) {
      return most / BEARING;
    }
    return what == 1 ? most % BEARING : ringAt(here, tree);
  }

  private void weigh() {
    int need = now.need();
    for (int h = 0; h < now.haterCount; h++) {
      for (int t = 0; t < TREES; t++) {
        int force = now.force(h, t);
        worth[h][t] = !now.gone[h] && force >= need ? BEARING + force : 0;
      }
    }
  }

  /** Fills best for the HATERS who are here (bits): what the whole RING of these comes to. */
  private int fillBest(int here) {
    for (int t = TREES - 1; t >= 0; t--) {
      for (int given = 0; given < 1 << MOST_HATERS; given++) {
        int most = best[t + 1][given];
        for (int h = 0; h < MOST_HATERS; h++) {
          if (isFree(h, here, given)) {
            most = Math.max(most, worth[h][t] + best[t + 1][given | 1 << h]);
          }
        }
        best[t][given] = most;
      }
    }
    return best[0][0];
  }

  /** Gives the TREES one by one the first HATER with whom the best can still be had. */
  private int ringAt(int here, int tree) {
    int given = 0;
    int has = ABSENT;
    for (int t = 0; t <= tree; t++) {
      has = firstOfBest(t, here, given);
      if (has != ABSENT) {
        given |= 1 << has;
      }
    }
    return has;
  }

  private int firstOfBest(int tree, int here, int given) {
    for (int h = 0; h < MOST_HATERS; h++) {
      if (isFree(h, here, given)
          && worth[h][tree] + best[tree + 1][given | 1 << h] == best[tree][given]) {
        return h;
      }
    }
    return ABSENT;
  }

  private static boolean isFree(int hater, int here, int given) {
    return (here & ~given & 1 << hater) != 0;
  }

  private int worst() {
    weigh();
    int worst = ABSENT;
    int fewest = TREES + 1;
    for (int h = 0; h < now.haterCount; h++) {
      int bearing = now.gone[h] ? TREES + 1 : bearingWithout(h);
      if (bearing < fewest) {
        fewest = bearing;
        worst = h;
      }
    }
    return worst;
  }

  /** What worst() weighed is asked. */
  private int bearingWithout(int hater) {
    if (!now.has(hater)) {
      return ABSENT;
    }
    return fillBest(now.present() & ~(1 << hater)) / BEARING;
  }

  public int turn(int tree, int n, int k) {
    if (!isTree(tree) || k < -1 || k >= MOST_TURNS) {
      return NONE;
    }
    if (n < 1 || n > MOST_TURNS) {
      return BAD;
    }
    if (now.haterCount == 0 || k >= n) {
      return ABSENT;
    }
    int row = firstOfTurns(tree, n);
    return k == -1 ? bearingByTurns(tree, n, row) : turnAt(row, n, k);
  }

  /** A row of n HATERS is told as a number with n digits to the base of how many HATERS there are. */
  private int turnAt(int row, int n, int k) {
    int rest = row;
    for (int i = n - 1; i > k; i--) {
      rest /= Math.max(1, now.haterCount);
    }
    return rest % Math.max(1, now.haterCount);
  }

  private int firstOfTurns(int tree, int n) {
    int rows = 1;
    for (int i = 0; i < n; i++) {
      rows *= now.haterCount;
    }
    int first = 0;
    int most = -1;
    for (int row = 0; row < rows && most < n; row++) {
      int bearing = bearingByTurns(tree, n, row);
      if (bearing > most) {
        most = bearing;
        first = row;
      }
    }
    return first;
  }

  private int bearingByTurns(int tree, int n, int row) {
    asked.goFrom(now);
    int bearing = 0;
    for (int k = 0; k < n; k++) {
      bearing += bit(asked.goAt(tree, turnAt(row, n, k)));
      asked.year++;
    }
    return bearing;
  }

  // ---- seen, odds

  public int see(int hater, int tree, int n, boolean bears) {
    if (hater == -1) {
      now.seen.count = 0;
      return 0;
    }
    if (!now.has(hater) || !isTree(tree)) {
      return NONE;
    }
    if (n < 0 || n > MOST_SEEN_YEARS) {
      return BAD;
    }
    return now.seen.append(hater, tree, n, bit(bears));
  }

  public int hates(int hater, int tree, int what) {
    if (!now.has(hater) || !isTree(tree) || what != 0 && what != 1) {
      return NONE;
    }
    asked.goFrom(now);
    int many = 0;
    int least = ABSENT;
    for (int n = MOST_HATE; n >= 0; n--) {
      asked.hate[hater][tree] = n;
      if (isAsSeen(hater, tree)) {
        many++;
        least = n;
      }
    }
    return what == 0 ? many : least;
  }

  public int can(int hater, int what) {
    if (!now.has(hater) || what != 0 && what != 1) {
      return NONE;
    }
    asked.goFrom(now);
    int many = 0;
    int least = ABSENT;
    for (int v = MOST_V; v >= 0; v--) {
      asked.haters[hater] = newHater(now.haters[hater].kind, hater, v);
      if (isAsSeen(hater, ABSENT)) {
        many++;
        least = v;
      }
    }
    return what == 0 ? many : least;
  }

  /** Whether what is asked is as all SEEN of a HATER at a TREE (ABSENT: at any). */
  private boolean isAsSeen(int hater, int tree) {
    for (int i = 0; i < now.seen.count; i++) {
      int[] seen = now.seen.rows[i];
      if (seen[0] == hater && (tree == ABSENT || seen[1] == tree)) {
        asked.year = now.year + seen[2];
        if (bit(asked.bears(hater, seen[1])) != seen[3]) {
          return false;
        }
      }
    }
    return true;
  }

  public long odds(int tree, int part) {
    if (!isTree(tree)) {
      return NO;
    }
    int bearing = 0;
    for (int h = 0; h < now.haterCount; h++) {
      bearing += bit(now.bears(h, tree));
    }
    return ofAll(bearing, part);
  }

  public long mean(int tree, int part) {
    if (!isTree(tree)) {
      return NO;
    }
    int hate = 0;
    for (int h = 0; h < now.haterCount; h++) {
      hate += now.hate[h][tree];
    }
    return ofAll(hate, part);
  }

  /** A part of the fraction above by all HATERS in lowest terms. */
  private long ofAll(int above, int part) {
    int below = now.haterCount;
    if (below == 0 || part != 0 && part != 1) {
      return NO;
    }
    int common = below;
    while (common > 1 && (above % common != 0 || below % common != 0)) {
      common--;
    }
    return (part == 0 ? above : below) / common;
  }

  // ---- plans, books

  public int plan(int what, int n) {
    if (what == -1) {
      now.plan.count = 0;
      return 0;
    }
    if (!canPlan(what, n)) {
      return NONE;
    }
    return now.plan.append(what, n, 0, 0);
  }

  private boolean canPlan(int what, int n) {
    switch (what) {
      case A_YEAR:
        return true;
      case IS_GONE:
      case IS_THERE:
        return now.has(n);
      case HAS_LEADER:
        return n >= 0 && isTree(n / 10) && (n % 10 == PLAN_NOBODY || now.has(n % 10));
      default:
        return false;
    }
  }

  public int ends(int what) {
    if (what != 0 && what != 1) {
      return NONE;
    }
    asked.goFrom(now);
    for (int i = 0; i < now.plan.count; i++) {
      int[] row = now.plan.rows[i];
      asked.goPlanned(row[0], row[1]);
    }
    return what == 0 ? asked.allBore() : asked.allHate();
  }

  public int book(int tree, int bore) {
    if (tree == -1) {
      now.book.count = 0;
      return 0;
    }
    if (!isTree(tree)) {
      return NONE;
    }
    if (bore < 0 || bore > MOST_BORE) {
      return BAD;
    }
    return now.book.append(tree, bore, 0, 0);
  }

  public int looked() {
    for (int i = 0; i < now.book.count; i++) {
      int[] row = now.book.rows[i];
      if (now.bore[row[0]] != row[1]) {
        return i;
      }
    }
    return ABSENT;
  }

  // ---- judging, the image, acts, tapes

  public int judge(int tape, int i) {
    if (!isTape(tape)) {
      return NONE;
    }
    if (sorts[tape] != ABSENT && sorts[tape] != LONGS) {
      return CAST;
    }
    for (int t = 0; t < TREES; t++) {
      if (!hasItem(tape, i + t)) {
        return 100 + t;
      }
      if (items[tape][i + t] != now.bore[t]) {
        return t;
      }
    }
    return ABSENT;
  }

  public int image() {
    image.become(now);
    imaged = true;
    return now.haterCount;
  }

  public int undo() {
    if (!imaged) {
      return STATE;
    }
    now.become(image);
    return now.haterCount;
  }

  public int act(int hater, int act, int x) {
    trace.clear();
    if (!now.has(hater)) {
      return 0;
    }
    Hater acting = now.haters[hater];
    switch (act) {
      case 0:
        return acting.sings(x);
      case 1:
        return acting.spits(x);
      case 2:
        return acting.tells(x);
      default:
        return 0;
    }
  }

  public int trace(int i) {
    return i < 0 || i >= MOST_TRACE || i >= trace.size() ? NONE : trace.get(i);
  }

  public int taken(int hater, int k) {
    if (k < 0 || k >= KINDS) {
      return BAD;
    }
    if (!now.has(hater)) {
      return NOTHING;
    }
    Hater taken = now.haters[hater];
    return isOfKind(taken, k) ? taken.kind : CAST;
  }

  private static boolean isOfKind(Hater hater, int kind) {
    switch (kind) {
      case 1:
        return hater instanceof Uncle;
      case 2:
        return hater instanceof Lad;
      case 3:
        return hater instanceof Lover;
      case 4:
        return hater instanceof Growler;
      case 5:
        return hater instanceof Feller;
      case 6:
        return hater instanceof Told;
      default:
        return true;
    }
  }

  public int count(int what) {
    switch (what) {
      case 0:
        return now.haterCount;
      case 1:
        return orchardCount;
      case 2:
        return now.seen.count;
      case 3:
        return now.plan.count;
      case 4:
        return now.book.count;
      case 5:
        return reader.length;
      case 6:
        return trace.size();
      default:
        return BAD;
    }
  }

  public int tape(int tape, int sort, int n) {
    if (!isTape(tape)) {
      return NONE;
    }
    if (sort == -1) {
      sorts[tape] = ABSENT;
      sizes[tape] = 0;
      return 1;
    }
    if (sort < 0 || sort >= SORTS || n > MOST_ITEMS) {
      return BAD;
    }
    if (n < 0) {
      return SIZE;
    }
    sorts[tape] = sort;
    sizes[tape] = n;
    Arrays.fill(items[tape], 0);
    return 1;
  }

  public int item(int tape, int i, long v) {
    if (!isTape(tape)) {
      return NONE;
    }
    if (sorts[tape] == ABSENT) {
      return NOTHING;
    }
    if (!hasItem(tape, i)) {
      return PLACE;
    }
    items[tape][i] = asItem(sorts[tape], v);
    return 1;
  }

  private static long asItem(int sort, long v) {
    switch (sort) {
      case BYTES:
        return (byte) v;
      case SHORTS:
        return (short) v;
      case INTS:
        return (int) v;
      case LONGS:
        return v;
      default:
        return v != 0 ? 1 : 0;
    }
  }

  public long read(int tape, int i) {
    return isTape(tape) && hasItem(tape, i) ? items[tape][i] : NO;
  }

  public int shift(int tape, int i, int other, int j, int n) {
    if (!isTape(tape) || !isTape(other)) {
      return NONE;
    }
    if (sorts[tape] == ABSENT || sorts[other] == ABSENT) {
      return NOTHING;
    }
    if (sorts[tape] != sorts[other]) {
      return CAST;
    }
    if (n < 0 || !hasItems(tape, i, n) || !hasItems(other, j, n)) {
      return PLACE;
    }
    System.arraycopy(items[tape], i, items[other], j, n);
    return n;
  }

  private boolean hasItem(int tape, int i) {
    return i >= 0 && i < sizes[tape];
  }

  private boolean hasItems(int tape, int i, int n) {
    return i >= 0 && i <= sizes[tape] && n <= sizes[tape] - i;
  }

  private static boolean isTape(int tape) {
    return tape >= 0 && tape < TAPES;
  }

  private static boolean isTree(int tree) {
    return tree >= 0 && tree < TREES;
  }

  private static boolean isHate(int n) {
    return n >= 0 && n <= MOST_HATE;
  }

  private static boolean isYears(int n) {
    return n >= 0 && n <= MOST_YEARS;
  }

  private static int bit(boolean is) {
    return is ? 1 : 0;
  }

  private Hater newHater(int kind, int number, int v) {
    switch (kind) {
      case 1:
        return new Uncle(kind, number, v, trace);
      case 2:
        return new Lad(kind, number, v, trace);
      case 3:
        return new Lover(kind, number, v, trace);
      case 4:
        return new Growler(kind, number, v, trace);
      case 5:
        return new Feller(kind, number, v, trace);
      case 6:
        return new Told(kind, number, v, trace);
      default:
        return new Hater(kind, number, v, trace);
    }
  }

  /** All that THE IMAGE keeps. */
  private static final class World {
    final Hater[] haters = new Hater[MOST_HATERS];
    final boolean[] gone = new boolean[MOST_HATERS];
    final int[][] hate = new int[MOST_HATERS][TREES];
    final int[][] rows = new int[MOST_HATERS][PARTS];
    int haterCount;
    final int[] bore = new int[TREES];
    final int[] leaders = new int[TREES];
    int year;
    final Rows seen = new Rows(MOST_SEEN);
    final Rows plan = new Rows(MOST_PLAN);
    final Rows book = new Rows(MOST_BOOK);

    /** The one that holds, or null. */
    Orchard orchard;

    /** What the LETTERS of a TEST stand for, in their order. */
    final int[] facts = new int[LETTERS.length()];

    World() {
      Arrays.fill(leaders, ABSENT);
    }

    void become(World other) {
      goFrom(other);
      seen.become(other.seen);
      plan.become(other.plan);
      book.become(other.book);
    }

    /** Takes over all but what was told by hand: years neither ask for that nor change it. */
    void goFrom(World other) {
      for (int h = 0; h < MOST_HATERS; h++) {
        haters[h] = other.haters[h];
        gone[h] = other.gone[h];
        System.arraycopy(other.hate[h], 0, hate[h], 0, TREES);
        System.arraycopy(other.rows[h], 0, rows[h], 0, PARTS);
      }
      haterCount = other.haterCount;
      System.arraycopy(other.bore, 0, bore, 0, TREES);
      System.arraycopy(other.leaders, 0, leaders, 0, TREES);
      year = other.year;
      orchard = other.orchard;
    }

    boolean has(int hater) {
      return hater >= 0 && hater < haterCount;
    }

    /** A place may have been another one's ahead of an undo(), so all that is a HATER's is set. */
    int welcome(Hater hater, int dislike) {
      int h = haterCount;
      haters[h] = hater;
      gone[h] = false;
      Arrays.fill(hate[h], dislike);
      Arrays.fill(rows[h], 0);
      haterCount++;
      return h;
    }

    int treeOf(int hater) {
      for (int t = 0; t < TREES; t++) {
        if (leaders[t] == hater) {
          return t;
        }
      }
      return ABSENT;
    }

    void giveLeader(int tree, int hater) {
      int other = treeOf(hater);
      if (hater != ABSENT && other != ABSENT) {
        leaders[other] = ABSENT;
      }
      leaders[tree] = hater;
    }

    /** The HATERS who are not GONE, as bits. */
    int present() {
      int bits = 0;
      for (int h = 0; h < haterCount; h++) {
        bits |= gone[h] ? 0 : 1 << h;
      }
      return bits;
    }

    int need() {
      return orchard == null ? NEED_WITHOUT : orchard.need;
    }

    int wear() {
      return orchard == null ? WEAR_WITHOUT : orchard.wear;
    }

    int force(int hater, int tree) {
      Hater who = haters[hater];
      int sum = hate[hater][tree];
      if (orchard != null) {
        facts[0] = hater;
        facts[1] = tree;
        facts[2] = who.kind;
        facts[3] = who.v;
        facts[4] = hate[hater][tree] / 10;
        facts[5] = year % 10;
        sum += orchard.warmth(facts);
      }
      return who.force(this, tree, sum);
    }

    boolean bears(int hater, int tree) {
      return !gone[hater] && force(hater, tree) >= need();
    }

    /** Which TREES BEAR with their LEADERS, as bits. */
    int bearing() {
      int bits = 0;
      for (int t = 0; t < TREES; t++) {
        if (has(leaders[t]) && bears(leaders[t], t)) {
          bits |= 1 << t;
        }
      }
      return bits;
    }

    /** TREES can go one by one, for no LEADER's HATE for its own TREE counts at another. */
    void goYears(int n) {
      for (int i = 0; i < n; i++) {
        for (int t = 0; t < TREES; t++) {
          if (has(leaders[t])) {
            goAt(t, leaders[t]);
          }
        }
        year++;
      }
    }

    /**
     * What a YEAR does to a TREE with a HATER as its LEADER: whether it BEARS. BORE is never above
     * YEAR, so it needs no bound of its own where YEAR has one.
     */
    boolean goAt(int tree, int hater) {
      if (!bears(hater, tree)) {
        return false;
      }
      bore[tree]++;
      hate[hater][tree] = Math.max(0, hate[hater][tree] - wear());
      return true;
    }

    void goPlanned(int what, int n) {
      switch (what) {
        case IS_GONE:
          gone[n] = true;
          break;
        case IS_THERE:
          gone[n] = false;
          break;
        case HAS_LEADER:
          giveLeader(n / 10, n % 10 == PLAN_NOBODY ? ABSENT : n % 10);
          break;
        default:
          goYears(1);
          break;
      }
    }

    int allBore() {
      int all = 0;
      for (int t = 0; t < TREES; t++) {
        all += bore[t];
      }
      return all;
    }

    int allHate() {
      int all = 0;
      for (int h = 0; h < haterCount; h++) {
        for (int t = 0; t < TREES; t++) {
          all += hate[h][t];
        }
      }
      return all;
    }
  }

  /** Rows of up to four numbers, told by hand. */
  private static final class Rows {
    final int[][] rows;
    int count;

    Rows(int most) {
      rows = new int[most][4];
    }

    int append(int first, int second, int third, int fourth) {
      if (count >= rows.length) {
        return FULL;
      }
      int[] row = rows[count];
      row[0] = first;
      row[1] = second;
      row[2] = third;
      row[3] = fourth;
      count++;
      return count;
    }

    void become(Rows other) {
      for (int i = 0; i < rows.length && i < other.rows.length; i++) {
        System.arraycopy(other.rows[i], 0, rows[i], 0, 4);
      }
      count = other.count;
    }
  }

  /**
   * CLAUSES as they were read: NEED, WEAR, and the steps by which the hot and the cold ones are
   * asked, one clause behind the other. The operands of a NOT, AND, OR, HOT or COLD go ahead of it.
   */
  private static final class Orchard {
    int need;
    int wear;
    final int[] steps = new int[MOST_SIGNS];

    /** With what a TEST compares, or the n of a HOT or COLD. */
    final int[] numbers = new int[MOST_SIGNS];

    int stepCount;

    void clear() {
      need = NEED_WITHOUT;
      wear = WEAR_WITHOUT;
      stepCount = 0;
    }

    void append(int step, int number) {
      if (stepCount < MOST_SIGNS) {
        steps[stepCount] = step;
        numbers[stepCount] = number;
        stepCount++;
      }
    }

    /** What hot and cold come to. Operands wait as bits: there are never more than some ten. */
    int warmth(int[] facts) {
      int warmth = 0;
      int waiting = 0;
      for (int i = 0; i < stepCount; i++) {
        int top = waiting & 1;
        switch (steps[i]) {
          case NOT:
            waiting ^= 1;
            break;
          case AND:
            waiting = waiting >> 1 & (top | ~1);
            break;
          case OR:
            waiting = waiting >> 1 | top;
            break;
          case HOT:
            warmth += top * numbers[i];
            waiting >>= 1;
            break;
          case COLD:
            warmth -= top * numbers[i];
            waiting >>= 1;
            break;
          default:
            waiting = waiting << 1 | bit(passes(steps[i], numbers[i], facts));
            break;
        }
      }
      return warmth;
    }

    static int testStep(int letter, int sign) {
      return letter * SIGNS.length() + sign;
    }

    private static boolean passes(int step, int number, int[] facts) {
      int letter = step / SIGNS.length();
      if (letter < 0 || letter >= facts.length) {
        return false;
      }
      switch (step % SIGNS.length()) {
        case 0:
          return facts[letter] < number;
        case 1:
          return facts[letter] == number;
        default:
          return facts[letter] > number;
      }
    }
  }

  /** THE TEXT. What reads it stops at the first byte that is none, and that place is the FAULT. */
  private static final class Reader {
    final int[] text = new int[MOST_SIGNS];
    int length;
    int at;

    /** The latest number that was read. */
    int number;

    int append(int sign) {
      if (length >= MOST_SIGNS) {
        return FULL;
      }
      text[length] = sign;
      length++;
      return length;
    }

    boolean readClauses(Orchard into) {
      into.clear();
      at = 0;
      for (int i = 0; i < MOST_CLAUSES; i++) {
        if (i > 0 && !take(';') || !readClause(into)) {
          return false;
        }
        if (at == length) {
          return true;
        }
      }
      return false;
    }

    private boolean readClause(Orchard into) {
      switch (at < length ? text[at] : -1) {
        case 'h':
          return takeWord("hot ") && readWarmth(into, HOT);
        case 'c':
          return takeWord("cold ") && readWarmth(into, COLD);
        case 'n':
          if (!takeWord("need ") || !readNumber()) {
            return false;
          }
          into.need = number;
          return true;
        case 'w':
          if (!takeWord("wear ") || !readNumber()) {
            return false;
          }
          into.wear = number;
          return true;
        default:
          return false;
      }
    }

    private boolean readWarmth(Orchard into, int step) {
      if (!readNumber()) {
        return false;
      }
      int n = number;
      if (!take(' ') || !readAny(into, 0)) {
        return false;
      }
      into.append(step, n);
      return true;
    }

    /** E, within so many ( and ! already: its T with | between, the F of each with & between. */
    private boolean readAny(Orchard into, int within) {
      for (int t = 0; t < MOST_SIGNS && (t == 0 || take('|')); t++) {
        for (int f = 0; f < MOST_SIGNS && (f == 0 || take('&')); f++) {
          if (!readOne(into, within)) {
            return false;
          }
          if (f > 0) {
            into.append(AND, 0);
          }
        }
        if (t > 0) {
          into.append(OR, 0);
        }
      }
      return true;
    }

    /** F. */
    private boolean readOne(Orchard into, int within) {
      if (within < MOST_WITHIN && take('!')) {
        if (!readOne(into, within + 1)) {
          return false;
        }
        into.append(NOT, 0);
        return true;
      }
      if (within < MOST_WITHIN && take('(')) {
        return readAny(into, within + 1) && take(')');
      }
      return readTest(into);
    }

    private boolean readTest(Orchard into) {
      int letter = takeOneOf(LETTERS);
      int sign = letter < 0 ? -1 : takeOneOf(SIGNS);
      if (sign < 0 || !readNumber()) {
        return false;
      }
      into.append(Orchard.testStep(letter, sign), number);
      return true;
    }

    /** One digit or two. */
    private boolean readNumber() {
      int digits = 0;
      number = 0;
      while (digits < 2 && at < length && text[at] >= '0' && text[at] <= '9') {
        number = number * 10 + text[at] - '0';
        at++;
        digits++;
      }
      return digits > 0;
    }

    private boolean take(int sign) {
      if (at >= length || text[at] != sign) {
        return false;
      }
      at++;
      return true;
    }

    private boolean takeWord(String word) {
      for (int i = 0; i < word.length(); i++) {
        if (!take(word.charAt(i))) {
          return false;
        }
      }
      return true;
    }

    /** Its place among the signs, or -1. */
    private int takeOneOf(String signs) {
      int place = at < length ? signs.indexOf((char) text[at]) : -1;
      if (place >= 0) {
        at++;
      }
      return place;
    }
  }

  /** A HATER as it came: what changes of it is the World's, so that all Worlds can share it. */
  private static class Hater {
    final int kind;
    final int number;
    final int v;
    final ArrayList<Integer> trace;

    Hater(int kind, int number, int v, ArrayList<Integer> trace) {
      this.kind = kind;
      this.number = number;
      this.v = v;
      this.trace = trace;
    }

    int force(World world, int tree, int sum) {
      return sum;
    }

    int sings(int x) {
      trace.add(10);
      return x + number;
    }

    int spits(int x) {
      trace.add(11);
      return sings(x) - v;
    }

    int tells(int x) {
      trace.add(12);
      return spits(x) * 2;
    }
  }

  private static class Uncle extends Hater {
    Uncle(int kind, int number, int v, ArrayList<Integer> trace) {
      super(kind, number, v, trace);
    }

    int force(World world, int tree, int sum) {
      return sum + (tree % 2 == 1 ? v : 0);
    }

    int spits(int x) {
      trace.add(20);
      return super.spits(x) ^ 6;
    }
  }

  private static class Lad extends Hater {
    Lad(int kind, int number, int v, ArrayList<Integer> trace) {
      super(kind, number, v, trace);
    }

    int force(World world, int tree, int sum) {
      return world.hate[number][tree] >= 50 ? sum * 2 : sum;
    }

    int sings(int x) {
      trace.add(30);
      return super.sings(x * 3);
    }
  }

  private static class Lover extends Hater {
    Lover(int kind, int number, int v, ArrayList<Integer> trace) {
      super(kind, number, v, trace);
    }

    int force(World world, int tree, int sum) {
      return 50 - sum;
    }

    int tells(int x) {
      trace.add(40);
      return super.tells(x) + spits(1);
    }
  }

  private static final class Growler extends Uncle {
    Growler(int kind, int number, int v, ArrayList<Integer> trace) {
      super(kind, number, v, trace);
    }

    int force(World world, int tree, int sum) {
      int force = super.force(world, tree, sum);
      return world.year % 2 == 1 ? force / 2 : force;
    }

    int sings(int x) {
      trace.add(50);
      return -super.sings(x);
    }

    int spits(int x) {
      trace.add(51);
      return super.spits(x + 1);
    }
  }

  private static final class Feller extends Lad {
    Feller(int kind, int number, int v, ArrayList<Integer> trace) {
      super(kind, number, v, trace);
    }

    int force(World world, int tree, int sum) {
      return super.force(world, tree, sum) - world.year % 10;
    }

    int tells(int x) {
      trace.add(60);
      return super.tells(x - number);
    }
  }

  private static final class Told extends Lover {
    Told(int kind, int number, int v, ArrayList<Integer> trace) {
      super(kind, number, v, trace);
    }

    int force(World world, int tree, int sum) {
      return super.force(world, tree, sum) + world.rows[number][world.year % PARTS];
    }

    int spits(int x) {
      trace.add(70);
      return super.spits(x) + super.sings(2);
    }

    int sings(int x) {
      trace.add(71);
      return super.sings(x) ^ v;
    }
  }
}
