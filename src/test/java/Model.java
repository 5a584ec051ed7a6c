import java.math.BigInteger;
import java.util.ArrayList;
import java.util.HashMap;
import java.util.HashSet;
import java.util.List;
import java.util.Map;
import java.util.Set;
import java.util.TreeSet;

/**
 * A second hall, written from the document for itself in the slowest and plainest way: sets in place
 * of bits, a copy for each thought, nothing kept from one question to the next.
 */
final class Model {
  final int[] kind = new int[12];
  final int[] figure = new int[12];
  final boolean[] prop = new boolean[12];

  Model() {
    java.util.Arrays.fill(kind, -1);
  }

  Model copy() {
    Model m = new Model();
    for (int p = 0; p < 12; p++) {
      m.kind[p] = kind[p];
      m.figure[p] = figure[p];
      m.prop[p] = prop[p];
    }
    return m;
  }

  /** A copy without some, settled. */
  Model without(int bits) {
    Model m = copy();
    for (int p = 0; p < 12; p++) if ((bits >> p & 1) != 0) m.kind[p] = -1;
    m.settle();
    return m;
  }

  boolean at(int row, int column) {
    return row >= 0 && row < 3 && column >= 0 && column < 4 && kind[row * 4 + column] >= 0;
  }

  int bits() {
    int bits = 0;
    for (int p = 0; p < 12; p++) if (kind[p] >= 0) bits |= 1 << p;
    return bits;
  }

  int stones() {
    return Integer.bitCount(bits());
  }

  int weight(int p) {
    int f = figure[p];
    return new int[] {2 + f, 5 + f, 1 + f, 1, 1 + 2 * f, 5 + f, 2 * (1 + f), 0}[kind[p]];
  }

  int bears(int p) {
    int f = figure[p];
    return new int[] {20, 40, 12, 3, 12 + f, 40 - f, 6, 0}[kind[p]];
  }

  static boolean isStuckKind(int k) {
    return k == 3 || k == 7;
  }

  /** What one lies on, the left one first; null if it is not held. */
  List<Integer> under(int p) {
    List<Integer> on = new ArrayList<>();
    int row = p / 4;
    int column = p % 4;
    if (row == 0 || prop[p]) return on;
    if (at(row - 1, column)) {
      on.add(p - 4);
      return on;
    }
    boolean left = at(row - 1, column - 1);
    boolean right = at(row - 1, column + 1);
    int k = kind[p];
    if (k == 2 || k == 4) {
      if (!left || !right) return null;
      on.add(p - 5);
      on.add(p - 3);
      return on;
    }
    if (k == 6) {
      if (!left && !right) return null;
      on.add(left ? p - 5 : p - 3);
      return on;
    }
    if (isStuckKind(k)) {
      if (at(row, column - 1) && !isStuckKind(kind[p - 1])) return on;
      if (at(row, column + 1) && !isStuckKind(kind[p + 1])) return on;
    }
    return null;
  }

  int load(int p) {
    int sum = 0;
    for (int q = 0; q < 12; q++) {
      if (kind[q] < 0) continue;
      List<Integer> on = under(q);
      if (on == null || !on.contains(p)) continue;
      int all = weight(q) + load(q);
      if (on.size() == 1) sum += all;
      else sum += on.get(0) == p ? all / 2 : all - all / 2;
    }
    return sum;
  }

  int note(int p) {
    return (7 * weight(p) + 3 * load(p)) % 50;
  }

  int noteOrSilence(int p) {
    return kind[p] < 0 ? 50 : note(p);
  }

  /** Settles; how many fell in each step. */
  List<Integer> settle() {
    List<Integer> steps = new ArrayList<>();
    while (true) {
      List<Integer> falling = new ArrayList<>();
      for (int p = 0; p < 12; p++) {
        if (kind[p] >= 0 && (under(p) == null || load(p) > bears(p))) falling.add(p);
      }
      if (falling.isEmpty()) return steps;
      for (int p : falling) kind[p] = -1;
      steps.add(falling.size());
    }
  }

  int lay(int p, int k, int f) {
    kind[p] = k;
    figure[p] = f;
    int there = stones();
    settle();
    return there - stones();
  }

  int take(int p) {
    kind[p] = -1;
    int there = stones();
    settle();
    return there - stones();
  }

  int turnProp(int p) {
    prop[p] = !prop[p];
    int there = stones();
    settle();
    return there - stones();
  }

  int tell(String text) {
    java.util.regex.Matcher whole =
        java.util.regex.Pattern.compile("(s[0-9]{4};|[xp][0-9]{2};)").matcher(text);
    int at = 0;
    while (at < text.length() && whole.find(at) && whole.start() == at) at = whole.end();
    if (at < text.length() || text.isEmpty()) return -1000 - at - goodBytes(text.substring(at));
    Model m = copy();
    int count = 0;
    for (at = 0; at < text.length(); at += text.charAt(at) == 's' ? 6 : 4) {
      int p = Integer.parseInt(text.substring(at + 1, at + 3));
      char letter = text.charAt(at);
      if (p > 11) return -2000 - at;
      if (letter == 's') {
        int k = text.charAt(at + 3) - '0';
        if (k > 7 || m.kind[p] >= 0) return -2000 - at;
        m.lay(p, k, text.charAt(at + 4) - '0');
      } else if (letter == 'x') {
        if (m.kind[p] < 0) return -2000 - at;
        m.take(p);
      } else {
        m.turnProp(p);
      }
      count++;
    }
    become(m);
    return count;
  }

  private static int goodBytes(String unfinished) {
    for (int n = unfinished.length(); n > 0; n--) {
      String part = unfinished.substring(0, n);
      if (part.matches("s[0-9]{0,4}|[xp][0-9]{0,2}")) return n;
    }
    return 0;
  }

  void become(Model m) {
    for (int p = 0; p < 12; p++) {
      kind[p] = m.kind[p];
      figure[p] = m.figure[p];
      prop[p] = m.prop[p];
    }
  }

  // ---- what would fall

  int fallsWithout(int bits) {
    return Integer.bitCount(bits() & ~bits) - without(bits).stones();
  }

  int whichFall(int p) {
    return bits() & ~(1 << p) & ~without(1 << p).bits();
  }

  int stepsWithout(int p) {
    Model m = copy();
    m.kind[p] = -1;
    return m.settle().size();
  }

  List<Integer> places() {
    List<Integer> all = new ArrayList<>();
    for (int p = 0; p < 12; p++) if (kind[p] >= 0) all.add(p);
    return all;
  }

  int corners(int what) {
    int found = 0;
    for (int p : places()) {
      boolean asked =
          what == 0 ? stones() > 1 && without(1 << p).stones() == 0 : fallsWithout(1 << p) == 0;
      if (asked) found += 1 << p;
    }
    return found;
  }

  int worst() {
    int best = -4;
    for (int p : places()) {
      if (best < 0 || fallsWithout(1 << p) > fallsWithout(1 << best)) best = p;
    }
    return best;
  }

  int together(int k, int what) {
    int pairs = 0;
    int first = -4;
    for (int a : places()) {
      for (int b : places()) {
        if (b <= a || fallsWithout(1 << a) > 0 || fallsWithout(1 << b) > 0) continue;
        if (fallsWithout(1 << a | 1 << b) < k) continue;
        pairs++;
        if (first == -4) first = 100 * a + b;
      }
    }
    return what == 0 ? pairs : first;
  }

  static List<Integer> choicesByFewest() {
    List<Integer> all = new ArrayList<>();
    for (int n = 0; n <= 12; n++) {
      for (int bits = 0; bits < 4096; bits++) if (Integer.bitCount(bits) == n) all.add(bits);
    }
    return all;
  }

  int cut(int p) {
    for (int choice : choicesByFewest()) {
      if ((choice & ~bits()) != 0 || (choice >> p & 1) != 0) continue;
      if (without(choice).kind[p] < 0) return choice;
    }
    return -4;
  }

  int toGround() {
    for (int choice : choicesByFewest()) {
      if ((choice & ~bits()) == 0 && without(choice).bits() < 16) return choice;
    }
    throw new IllegalStateException();
  }

  int longest(int what) {
    Map<Integer, List<Integer>> known = new HashMap<>();
    List<Integer> run = run(this, known);
    return what == 0 ? run.size() : run.isEmpty() ? -4 : run.get(0);
  }

  private static List<Integer> run(Model m, Map<Integer, List<Integer>> known) {
    if (known.containsKey(m.bits())) return known.get(m.bits());
    List<Integer> best = new ArrayList<>();
    for (int p : m.places()) {
      if (m.fallsWithout(1 << p) > 0) continue;
      List<Integer> rest = run(m.without(1 << p), known);
      if (rest.size() + 1 <= best.size()) continue;
      best = new ArrayList<>();
      best.add(p);
      best.addAll(rest);
    }
    known.put(m.bits(), best);
    return best;
  }

  int game(int what) {
    int first = winner(this, new HashMap<>());
    return what == 1 ? first : first >= 0 ? 1 : 0;
  }

  private static int winner(Model m, Map<Integer, Integer> known) {
    if (known.containsKey(m.bits())) return known.get(m.bits());
    int first = -4;
    for (int p : m.places()) {
      if (m.fallsWithout(1 << p) > 0 || winner(m.without(1 << p), known) >= 0) continue;
      first = p;
      break;
    }
    known.put(m.bits(), first);
    return first;
  }

  long bombs(int t, int k, int part) {
    BigInteger above = BigInteger.ZERO;
    for (int hit = 0; hit < 4096; hit++) {
      if ((hit & ~bits()) != 0 || without(hit).stones() < k) continue;
      int spared = stones() - Integer.bitCount(hit);
      above = above.add(BigInteger.valueOf(t - 1).pow(spared));
    }
    BigInteger below = BigInteger.valueOf(t).pow(stones());
    BigInteger shared = above.gcd(below);
    return (part == 0 ? above : below).divide(shared).longValueExact();
  }

  int mostLoad(int what) {
    int best = -4;
    for (int p : places()) if (best < 0 || load(p) > load(best)) best = p;
    return what == 1 || best < 0 ? best : load(best);
  }

  // ---- notes, props

  int which(int[] row) {
    int found = 0;
    for (int p : places()) {
      Model m = without(1 << p);
      boolean fits = true;
      for (int i = 0; i < row.length; i += 2) fits &= m.noteOrSilence(row[i]) == row[i + 1];
      if (fits) found += 1 << p;
    }
    return found;
  }

  int tapNext(int[] row) {
    int suspects = which(row);
    if (Integer.bitCount(suspects) < 2) return -4;
    int best = -4;
    int most = 0;
    for (int q = 0; q < 12; q++) {
      Set<Integer> notes = new TreeSet<>();
      for (int p : places()) {
        if ((suspects >> p & 1) != 0) notes.add(without(1 << p).noteOrSilence(q));
      }
      if (notes.size() > most) {
        most = notes.size();
        best = q;
      }
    }
    return best;
  }

  int propsWanted() {
    for (int choice : choicesByFewest()) {
      if (Integer.bitCount(choice) > 4) break;
      Model m = copy();
      boolean free = true;
      for (int p = 0; p < 12; p++) {
        if ((choice >> p & 1) == 0) continue;
        free &= !prop[p];
        m.prop[p] = true;
      }
      if (!free) continue;
      m.settle();
      if (m.bits() != bits()) throw new IllegalStateException("a prop let one fall");
      boolean safe = true;
      for (int p : m.places()) safe = safe && m.fallsWithout(1 << p) == 0;
      if (safe) return choice;
    }
    return -4;
  }

  int lean(int what) {
    int[] columns = new int[4];
    for (int p : places()) columns[p % 4] += weight(p);
    if (what == 0) return columns[0] + columns[1] - columns[2] - columns[3];
    int best = 0;
    for (int c = 1; c < 4; c++) if (columns[c] > columns[best]) best = c;
    return best;
  }

  // ---- takings

  /** All ways (places in order) that fit the first n elements of a row. */
  List<List<Integer>> ways(int[] row, int n) {
    List<List<Integer>> found = new ArrayList<>();
    ways(row, n, 0, new ArrayList<>(), found);
    return found;
  }

  private void ways(int[] row, int n, int i, List<Integer> so, List<List<Integer>> found) {
    if (i == n) {
      found.add(new ArrayList<>(so));
      return;
    }
    for (int p : places()) {
      Model m = without(1 << p);
      if (m.stones() != row[i]) continue;
      so.add(p);
      m.ways(row, n, i + 1, so, found);
      so.remove(so.size() - 1);
    }
  }

  int tins(int[] row, int what) {
    List<List<Integer>> found = ways(row, row.length);
    if (what == 0) return found.size();
    return found.isEmpty() || row.length == 0 ? -4 : found.get(0).get(0);
  }

  int forged(int[] row) {
    for (int n = 1; n <= row.length; n++) if (ways(row, n).isEmpty()) return n - 1;
    return -4;
  }

  int judge(int[] row) {
    Model m = copy();
    for (int i = 0; i < row.length; i++) {
      if (m.kind[row[i]] < 0 || m.take(row[i]) > 0) return i;
    }
    return -4;
  }

  int raids(int n, int z, int what) {
    int sum = 0;
    int spared = 0;
    for (int raid = 0; raid < n; raid++) {
      Model m = copy();
      for (int bomb = 0; bomb < 3; bomb++) {
        z = z * 1103515245 + 12345;
        m.take((int) ((z & 0x7fffffffL) / 65536 % 12));
      }
      sum += m.stones();
      boolean all = true;
      for (int p = 0; p < 4; p++) all &= kind[p] < 0 || m.kind[p] >= 0;
      if (all) spared++;
    }
    return what == 0 ? sum : spared;
  }

  int felled(int k) {
    Map<Integer, Model> level = new HashMap<>();
    level.put(bits(), this);
    for (int takings = 0; takings <= 12; takings++) {
      Map<Integer, Model> next = new HashMap<>();
      for (Model m : level.values()) {
        if (stones() - m.stones() - takings >= k) return takings;
        for (int p : m.places()) {
          Model behind = m.without(1 << p);
          next.put(behind.bits(), behind);
        }
      }
      level = next;
    }
    return -4;
  }

  int twins() {
    int pairs = 0;
    for (int a : places()) {
      for (int b : places()) {
        if (b <= a) continue;
        Set<Integer> one = new HashSet<>(without(1 << a).places());
        Set<Integer> other = new HashSet<>(without(1 << b).places());
        one.removeAll(List.of(a, b));
        other.removeAll(List.of(a, b));
        if (one.equals(other)) pairs++;
      }
    }
    return pairs;
  }

  int highest(int what) {
    int row = -4;
    for (int p : places()) row = Math.max(row, p / 4);
    if (what == 0 || row < 0) return row;
    int n = 0;
    for (int p : places()) if (p / 4 == row) n++;
    return n;
  }

  int depends(int p) {
    int found = 0;
    for (int q : places()) if (q != p && without(1 << q).kind[p] < 0) found += 1 << q;
    return found;
  }

  int count(int what) {
    int sum = 0;
    for (int p = 0; p < 12; p++) {
      if (what == 2 && prop[p]) sum += 1 << p;
      if (kind[p] < 0) continue;
      if (what == 0) sum++;
      if (what == 1) sum += 1 << p;
      if (what == 3) sum += weight(p);
      if (what == 4) sum += load(p);
      if (what == 5 && p < 4) sum++;
    }
    return sum;
  }

  int stone(int p, int what) {
    return new int[] {kind[p], figure[p], weight(p), bears(p), load(p), note(p)}[what];
  }
}
