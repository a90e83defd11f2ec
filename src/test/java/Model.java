import java.util.ArrayList;
import java.util.Arrays;
import java.util.List;
import java.util.TreeSet;

/**
 * The document once more, written as slowly and as near to its words as can be, for the tests to
 * compare with: sets of numbers instead of bits, every choice tried instead of a search.
 */
final class Model {
  static final int NONE = -1, SPENT = -2, UNKNOWN = -101, OUTSIDE = -102, STATE = -103, FULL = -104;
  private static final long END = 1L << 32;

  private static final class Tome {
    int kind, m, bits;
    List<int[]> laws = new ArrayList<>();
    int[] number;
    int[] really = new int[32];
    List<TreeSet<Integer>> rows = new ArrayList<>();
  }

  private final List<int[]> laws = new ArrayList<>();
  private final List<Tome> tomes = new ArrayList<>();

  private static List<Integer> members(long set) {
    List<Integer> found = new ArrayList<>();
    for (int i = 0; i < 32; i++) {
      if ((set >>> i) % 2 == 1) {
        found.add(i);
      }
    }
    return found;
  }

  private static long bits(Iterable<Integer> members) {
    long sum = 0;
    for (int i : members) {
      sum += 1L << i;
    }
    return sum;
  }

  private static int val(int[] law, int key) {
    return (law[0] * key + law[1]) % 37;
  }

  private static int mark(int[] law, int key) {
    return 1 + val(law, key) % 7;
  }

  private static boolean badSet(long set) {
    return set < 0 || set >= END;
  }

  private static boolean badKey(int key) {
    return key < 0 || key > 31;
  }

  private Tome tome(int book) {
    return book < 0 || book >= tomes.size() ? null : tomes.get(book);
  }

  // ---- laws

  int law(int a, int b) {
    if (a < 1 || a > 36 || b < 0 || b > 36) return OUTSIDE;
    if (laws.size() == 8) return FULL;
    laws.add(new int[] {a, b});
    return laws.size() - 1;
  }

  int value(int law, int key) {
    if (law < 0 || law >= laws.size() || badKey(key)) return UNKNOWN;
    return val(laws.get(law), key);
  }

  private static int falselyMet(long set, int[] law, int m) {
    int met = 0;
    for (int x = 0; x < 32; x++) {
      if (!members(set).contains(x) && meets(set, law, m, x)) met++;
    }
    return met;
  }

  private static boolean meets(long set, int[] law, int m, int x) {
    for (int s : members(set)) {
      if (val(law, s) % m == val(law, x) % m) return true;
    }
    return false;
  }

  int odds(long set, int key, int m, int part) {
    if (badSet(set) || m < 2 || m > 32 || part < 0 || part > 1) return OUTSIDE;
    if (badKey(key) || members(set).contains(key)) return UNKNOWN;
    int above = 0;
    for (int a = 1; a <= 36; a++) {
      for (int b = 0; b <= 36; b++) {
        if (meets(set, new int[] {a, b}, m, key)) above++;
      }
    }
    int below = 36 * 37;
    for (int d = below; d > 1; d--) {
      if (above % d == 0 && below % d == 0) {
        above /= d;
        below /= d;
      }
    }
    return part == 0 ? above : below;
  }

  int best(long set, int m, int what) {
    if (badSet(set) || m < 2 || m > 32 || what < 0 || what > 2) return OUTSIDE;
    int[] found = {99, 0, 0};
    for (int a = 1; a <= 36; a++) {
      for (int b = 0; b <= 36; b++) {
        int met = falselyMet(set, new int[] {a, b}, m);
        if (met < found[0]) found = new int[] {met, a, b};
      }
    }
    return found[what];
  }

  int fewest(long set, int law, int e) {
    if (law < 0 || law >= laws.size()) return UNKNOWN;
    if (badSet(set) || e < 0 || e > 31) return OUTSIDE;
    for (int m = 2; m <= 32; m++) {
      if (falselyMet(set, laws.get(law), m) <= e) return m;
    }
    return NONE;
  }

  // ---- books

  int book(int kind, int m, int lawBits) {
    if (kind < 0 || kind > 5 || m < (kind == 4 ? 3 : 2) || m > 32) return OUTSIDE;
    List<Integer> named = new ArrayList<>();
    for (int i = 0; i < 32; i++) {
      if ((lawBits >>> i & 1) == 1) named.add(i);
    }
    int many = named.size();
    if (many < 1 || many > 3 || (kind == 3 && many != 2) || (kind == 4 && many != 3)) return UNKNOWN;
    for (int i : named) {
      if (i >= laws.size()) return UNKNOWN;
    }
    if (tomes.size() == 8) return FULL;
    Tome t = like(kind, m, lawBits);
    for (int i : named) {
      t.laws.add(laws.get(i));
    }
    tomes.add(t);
    return tomes.size() - 1;
  }

  private static Tome like(int kind, int m, int lawBits) {
    Tome t = new Tome();
    t.kind = kind;
    t.m = m;
    t.bits = lawBits;
    t.number = new int[m];
    return t;
  }

  int as(int book, int kind) {
    Tome t = tome(book);
    if (t == null) return UNKNOWN;
    if (kind < 0 || kind > 5) return OUTSIDE;
    boolean is = t.kind == kind || (kind == 0 && t.kind != 3) || (kind == 2 && t.kind == 4);
    return is ? book : NONE;
  }

  int about(int book, int what) {
    Tome t = tome(book);
    if (t == null) return UNKNOWN;
    if (what < 0 || what > 5) return OUTSIDE;
    int above = 0;
    for (int n : t.number) {
      if (n > 0) above++;
    }
    int there = 0;
    for (int n : t.really) {
      if (n > 0) there++;
    }
    return new int[] {t.kind, t.m, t.bits, above, there, t.rows.size()}[what];
  }

  int at(int book, int place) {
    Tome t = tome(book);
    return t == null || place < 0 || place >= t.m ? UNKNOWN : t.number[place];
  }

  long row(int book, int row) {
    Tome t = tome(book);
    return t == null || row < 0 || row >= t.rows.size() ? UNKNOWN : bits(t.rows.get(row));
  }

  private static TreeSet<Integer> spots(Tome t, int key) {
    TreeSet<Integer> found = new TreeSet<>();
    if (t.kind == 3) {
      int p = val(t.laws.get(0), key) % t.m;
      found.add(p);
      found.add(other(t, p, mark(t.laws.get(1), key)));
      return found;
    }
    int part = Math.max(1, t.m / t.laws.size());
    for (int j = 0; j < t.laws.size(); j++) {
      int v = val(t.laws.get(j), key);
      found.add(t.kind == 2 || t.kind == 4 ? (j * part + v % part) % t.m : v % t.m);
    }
    return found;
  }

  private static int other(Tome t, int p, int f) {
    int q = 5 * f - p;
    while (q < 0) {
      q += t.m;
    }
    return q % t.m;
  }

  private static boolean in(Tome t, int key) {
    if (t.kind == 5) {
      int i = 0;
      while (i < t.rows.size() && t.rows.get(i).contains(rowPlace(t, i, key))) {
        i++;
      }
      return i == 1 || i == 3 || i == 5;
    }
    if (t.kind == 4) {
      int all = 0;
      for (int p : spots(t, key)) {
        all ^= t.number[p];
      }
      return all == mark(t.laws.get(0), key);
    }
    for (int p : spots(t, key)) {
      if (t.kind == 3 && t.number[p] == mark(t.laws.get(1), key)) return true;
      if (t.kind != 3 && t.number[p] == 0) return false;
    }
    return t.kind != 3;
  }

  long places(int book, int key) {
    Tome t = tome(book);
    return t == null || badKey(key) ? UNKNOWN : bits(spots(t, key));
  }

  int put(int book, int key) {
    Tome t = tome(book);
    if (t == null || badKey(key)) return UNKNOWN;
    if (t.kind >= 4 || t.really[key] == 99) return STATE;
    int ahead = in(t, key) ? 1 : 0;
    if (t.kind == 3) {
      int[] after = pushed(t, t.number, key);
      if (after == null) return FULL;
      t.number = after;
    } else {
      for (int p : spots(t, key)) {
        t.number[p] = t.kind == 1 ? Math.min(7, t.number[p] + 1) : 1;
      }
    }
    t.really[key]++;
    return ahead;
  }

  private static int[] pushed(Tome t, int[] marks, int key) {
    int[] now = marks.clone();
    int f = mark(t.laws.get(1), key);
    int p = val(t.laws.get(0), key) % t.m;
    int q = other(t, p, f);
    if (now[p] == 0) {
      now[p] = f;
      return now;
    }
    if (now[q] == 0) {
      now[q] = f;
      return now;
    }
    int pushedOut = 0;
    while (now[p] != 0) {
      if (pushedOut == 8) return null;
      int old = now[p];
      now[p] = f;
      pushedOut++;
      f = old;
      p = other(t, p, f);
    }
    now[p] = f;
    return now;
  }

  int take(int book, int key) {
    Tome t = tome(book);
    if (t == null || badKey(key)) return UNKNOWN;
    if ((t.kind != 1 && t.kind != 3) || !in(t, key)) return STATE;
    if (t.kind == 1) {
      for (int p : spots(t, key)) {
        if (t.number[p] != 7) t.number[p]--;
      }
    } else {
      int f = mark(t.laws.get(1), key);
      int p = val(t.laws.get(0), key) % t.m;
      t.number[t.number[p] == f ? p : other(t, p, f)] = 0;
    }
    if (t.really[key] == 0) return 0;
    t.really[key]--;
    return 1;
  }

  int build(int book, long set, long out) {
    Tome t = tome(book);
    if (t == null) return UNKNOWN;
    if (badSet(set) || badSet(out) || (set & out) != 0 || (t.kind == 4 && out != 0)) return OUTSIDE;
    if (t.kind < 4 || !(t.kind == 4 ? fold(t, set) : layer(t, set, out))) return STATE;
    Arrays.fill(t.really, 0);
    for (int key : members(set)) {
      t.really[key] = 1;
    }
    return members(set).size();
  }

  private static boolean fold(Tome t, long set) {
    List<Integer> left = members(set);
    List<int[]> away = new ArrayList<>();
    while (!left.isEmpty()) {
      int[] found = null;
      for (int p = 0; p < t.m && found == null; p++) {
        List<Integer> having = new ArrayList<>();
        for (int key : left) {
          if (spots(t, key).contains(p)) having.add(key);
        }
        if (having.size() == 1) found = new int[] {having.get(0), p};
      }
      if (found == null) return false;
      left.remove(Integer.valueOf(found[0]));
      away.add(0, found);
    }
    t.number = new int[t.m];
    for (int[] pair : away) {
      int want = mark(t.laws.get(0), pair[0]);
      for (int p : spots(t, pair[0])) {
        if (p != pair[1]) want ^= t.number[p];
      }
      t.number[pair[1]] = want;
    }
    return true;
  }

  private static int rowPlace(Tome t, int row, int key) {
    return val(t.laws.get(row % t.laws.size()), key) % t.m;
  }

  private static boolean layer(Tome t, long set, long out) {
    List<TreeSet<Integer>> rows = new ArrayList<>();
    for (int i = 0; i <= 6; i++) {
      TreeSet<Integer> next = new TreeSet<>();
      for (int key : members(i % 2 == 0 ? set : out)) {
        boolean inAll = true;
        for (int r = 0; r < i; r++) {
          inAll &= rows.get(r).contains(rowPlace(t, r, key));
        }
        if (inAll) next.add(rowPlace(t, i, key));
      }
      if (next.isEmpty()) {
        t.rows = rows;
        return true;
      }
      rows.add(next);
    }
    return false;
  }

  int real(int book, int key) {
    Tome t = tome(book);
    return t == null || badKey(key) ? UNKNOWN : t.really[key];
  }

  long keys(int book, int what) {
    Tome t = tome(book);
    if (t == null) return UNKNOWN;
    if (what < 0 || what > 3) return OUTSIDE;
    List<Integer> found = new ArrayList<>();
    for (int key = 0; key < 32; key++) {
      boolean in = in(t, key);
      boolean there = t.really[key] > 0;
      if (what == 0 ? in : what == 1 ? in && !there : what == 2 ? there && !in : there) found.add(key);
    }
    return bits(found);
  }

  int join(int a, int b, boolean meets) {
    Tome s = tome(a);
    Tome t = tome(b);
    if (s == null || t == null) return UNKNOWN;
    boolean both = (s.kind == 0 && t.kind == 0) || (s.kind == 2 && t.kind == 2);
    if (!both || s.m != t.m || s.bits != t.bits) return STATE;
    if (tomes.size() == 8) return FULL;
    Tome u = like(s.kind, s.m, s.bits);
    u.laws = s.laws;
    for (int p = 0; p < s.m; p++) {
      u.number[p] = meets ? Math.min(s.number[p], t.number[p]) : Math.max(s.number[p], t.number[p]);
    }
    for (int k = 0; k < 32; k++) {
      u.really[k] = meets ? Math.min(s.really[k], t.really[k]) : Math.max(s.really[k], t.really[k]);
    }
    tomes.add(u);
    return tomes.size() - 1;
  }

  int halve(int book) {
    Tome s = tome(book);
    if (s == null) return UNKNOWN;
    if (s.kind != 0 || s.m % 2 == 1 || s.m == 2) return STATE;
    if (tomes.size() == 8) return FULL;
    Tome u = like(0, s.m / 2, s.bits);
    u.laws = s.laws;
    for (int p = 0; p < s.m; p++) {
      u.number[p % u.m] = Math.max(u.number[p % u.m], s.number[p]);
    }
    u.really = s.really.clone();
    tomes.add(u);
    return tomes.size() - 1;
  }

  // ---- what could be

  long spoil(int book, int key) {
    Tome t = tome(book);
    if (t == null || badKey(key)) return UNKNOWN;
    if (t.kind > 2) return STATE;
    TreeSet<Integer> missing = new TreeSet<>();
    for (int p : spots(t, key)) {
      if (t.number[p] == 0) missing.add(p);
    }
    if (missing.isEmpty()) return 0;
    List<List<Integer>> chosen = new ArrayList<>();
    for (int a = 0; a < 32; a++) {
      for (int b = a; b < 32; b++) {
        for (int c = b; c < 32; c++) {
          TreeSet<Integer> some = new TreeSet<>(Arrays.asList(a, b, c));
          TreeSet<Integer> filled = new TreeSet<>();
          for (int k : some) {
            filled.addAll(spots(t, k));
          }
          if (!some.contains(key) && filled.containsAll(missing)) chosen.add(new ArrayList<>(some));
        }
      }
    }
    long found = NONE;
    int many = 9;
    for (List<Integer> some : chosen) {
      if (some.size() < many || (some.size() == many && bits(some) < found)) {
        many = some.size();
        found = bits(some);
      }
    }
    return found;
  }

  long made(int book, int what) {
    Tome t = tome(book);
    if (t == null) return UNKNOWN;
    if (what < 0 || what > 3) return OUTSIDE;
    if (t.kind != 0 && t.kind != 2) return STATE;
    TreeSet<Integer> filled = new TreeSet<>();
    for (int p = 0; p < t.m; p++) {
      if (t.number[p] > 0) filled.add(p);
    }
    TreeSet<Integer> may = new TreeSet<>();
    for (int k = 0; k < 32; k++) {
      if (filled.containsAll(spots(t, k))) may.add(k);
    }
    boolean can = reached(t, may, -1).equals(filled);
    if (what >= 2) {
      TreeSet<Integer> told = new TreeSet<>();
      for (int k : may) {
        if (can && (what == 3 || !reached(t, may, k).equals(filled))) told.add(k);
      }
      return bits(told);
    }
    if (filled.size() > 12) return SPENT;
    if (!can) return NONE;
    for (int many = 0; ; many++) {
      long least = leastOf(t, new ArrayList<>(may), filled, many);
      if (least >= 0) return what == 0 ? many : least;
    }
  }

  private static TreeSet<Integer> reached(Tome t, Iterable<Integer> keys, int without) {
    TreeSet<Integer> found = new TreeSet<>();
    for (int k : keys) {
      if (k != without) found.addAll(spots(t, k));
    }
    return found;
  }

  /** Of all sets of so many of the keys that reach what is wanted, that of least bits; else -1. */
  private static long leastOf(Tome t, List<Integer> keys, TreeSet<Integer> wanted, int many) {
    if (many == 0) return wanted.isEmpty() ? 0 : -1;
    if (wanted.size() > 3 * many) return -1;
    long least = -1;
    for (int i = 0; i < keys.size(); i++) {
      TreeSet<Integer> left = new TreeSet<>(wanted);
      left.removeAll(spots(t, keys.get(i)));
      long found = leastOf(t, keys.subList(i + 1, keys.size()), left, many - 1);
      if (found >= 0) {
        long all = found + (1L << keys.get(i));
        if (least < 0 || all < least) least = all;
      }
    }
    return least;
  }

  int order(int book, long set, int i) {
    Tome t = tome(book);
    if (t == null) return UNKNOWN;
    if (badSet(set) || members(set).size() > 6 || i < 0 || i > 5) return OUTSIDE;
    if (t.kind != 3) return STATE;
    List<Integer> found = line(t, new int[t.m], members(set));
    return found == null || i >= found.size() ? NONE : found.get(i);
  }

  private static List<Integer> line(Tome t, int[] marks, List<Integer> left) {
    if (left.isEmpty()) return new ArrayList<>();
    for (int key : left) {
      int[] after = pushed(t, marks, key);
      if (after == null) continue;
      List<Integer> others = new ArrayList<>(left);
      others.remove(Integer.valueOf(key));
      List<Integer> found = line(t, after, others);
      if (found != null) {
        found.add(0, key);
        return found;
      }
    }
    return null;
  }

  int most(int book, long set) {
    Tome t = tome(book);
    if (t == null) return UNKNOWN;
    if (badSet(set)) return OUTSIDE;
    if (t.kind != 3) return STATE;
    int[] owner = new int[t.m];
    Arrays.fill(owner, -1);
    int lying = 0;
    for (int key : members(set)) {
      if (finds(t, key, owner, new boolean[t.m])) lying++;
    }
    return lying;
  }

  private static boolean finds(Tome t, int key, int[] owner, boolean[] tried) {
    for (int p : spots(t, key)) {
      if (tried[p]) continue;
      tried[p] = true;
      if (owner[p] < 0 || finds(t, owner[p], owner, tried)) {
        owner[p] = key;
        return true;
      }
    }
    return false;
  }

  // ---- what is told

  int count(int what) {
    if (what < 0 || what > 3) return OUTSIDE;
    int somewhere = 0;
    int everywhere = 0;
    for (int key = 0; key < 32; key++) {
      boolean some = false;
      boolean all = !tomes.isEmpty();
      for (Tome t : tomes) {
        some |= t.really[key] > 0;
        all &= in(t, key);
      }
      somewhere += some ? 1 : 0;
      everywhere += all ? 1 : 0;
    }
    return new int[] {laws.size(), tomes.size(), somewhere, everywhere}[what];
  }

  long digest() {
    List<Long> told = new ArrayList<>();
    for (int law = 0; law < laws.size(); law++) {
      for (int key = 0; key < 32; key++) told.add((long) value(law, key));
    }
    for (int b = 0; b < tomes.size(); b++) {
      for (int what = 0; what <= 5; what++) told.add((long) about(b, what));
      for (int n : tomes.get(b).number) told.add((long) n);
      for (TreeSet<Integer> row : tomes.get(b).rows) told.add(bits(row));
      for (int what = 0; what <= 3; what++) told.add(keys(b, what));
    }
    for (int what = 0; what <= 3; what++) told.add((long) count(what));
    long h = 367;
    for (long n : told) h = h * 31 + n;
    return h;
  }
}
