import java.util.Arrays;

/** A hall of three rows of stones: what holds, what falls, and on which stone all of it rests. */
public final class CornerstoneSought {
  private static final int NO_SUCH = -1;
  private static final int NO_ROOM = -2;
  private static final int NOT_SO = -3;
  private static final int NONE = -4;
  private static final int NOTHING_HELD = -11;
  private static final int OTHER_KIND = -12;
  private static final int NO_SUCH_PLACE = -13;
  private static final int SIZE_BELOW_ZERO = -14;
  private static final int NO_FAILURE = -15;
  private static final int REFUSED_BY_LONGS = 1000000000;

  private static final int PLACES = 12;
  private static final int COLUMNS = 4;
  private static final int ALL = (1 << PLACES) - 1;
  private static final int GROUND = (1 << COLUMNS) - 1;
  private static final int KINDS = 8;
  private static final int FIGURES = 10;
  private static final int SILENCE = 50;

  private static final int PLAIN = 0;
  private static final int ARCHED = 1;
  private static final int BEAMED = 2;
  private static final int STUCK = 3;

  private static final int SHELVES = 8;
  private static final int LONGEST_ROW = 100;
  private static final int SORTS = 3;
  private static final int BYTES = 0;
  private static final int SHORTS = 1;
  private static final int MOST_TINS = 4;

  // the places (bits) beside each in its own row
  private static final int[] BESIDE = {
    0x002, 0x005, 0x00a, 0x004, 0x020, 0x050, 0x0a0, 0x040, 0x200, 0x500, 0xa00, 0x400
  };

  private final Stone[] kinds = {
    new Stone(), new Corner(), new Arch(), new Plaster(),
    new Key(), new Step(), new Beam(), new Mouse()
  };
  private final Foresight mind = new Foresight();
  private final Hall now = mind.hall;
  private final Hall imaged = new Hall();
  private final Hall before = new Hall();
  private final Shelf[] shelves = new Shelf[SHELVES];
  private boolean hasImage = false;

  public CornerstoneSought() {
    for (int d = 0; d < SHELVES; d++) shelves[d] = new Shelf();
  }

  // ---- the hall as told

  public int hall(int d) {
    int refusal = rowRefused(d);
    if (refusal != 0) return refusal;
    Shelf text = shelves[d];
    if (text.sort != BYTES) return OTHER_KIND;
    int bad = firstBadByte(text);
    if (bad >= 0) return -1000 - bad;
    return doStatements(text);
  }

  public int stone(int p, int what) {
    if (!isPlace(p) || what < 0 || what > 5) return NO_SUCH;
    if (!now.holds(p)) return NOT_SO;
    now.weighAll();
    switch (what) {
      case 0: return now.kinds[p];
      case 1: return now.figures[p];
      case 2: return now.weights[p];
      case 3: return now.bears[p];
      case 4: return now.loads[p];
      default: return now.noteAt(p);
    }
  }

  public int lays(int d, int p) {
    if (!isPlace(p)) return NO_SUCH;
    int refusal = kindRefused(d);
    if (refusal != 0) return refusal;
    if (now.holds(p)) return NO_ROOM;
    Shelf shelf = shelves[d];
    return now.lay(p, shelf.kind, shelf.figure, kinds[shelf.kind]);
  }

  public int takes(int p) {
    int refusal = stoneRefused(p);
    return refusal != 0 ? refusal : now.takeOut(p);
  }

  public int props(int p) {
    return isPlace(p) ? now.turnProp(p) : NO_SUCH;
  }

  // ---- what would fall

  public int falls(int p, int what) {
    if (what < 0 || what > 2) return NO_SUCH;
    int refusal = stoneRefused(p);
    if (refusal != 0) return refusal;
    if (what == 1) return now.stepsFrom(now.stones & ~(1 << p));
    int fallen = mind.fallenWithout(1 << p);
    return what == 0 ? Integer.bitCount(fallen) : fallen;
  }

  public int corners(int what) {
    if (!isEither(what)) return NO_SUCH;
    return what == 0 ? mind.cornerstones() : mind.safeOnes();
  }

  public int worst() {
    return mind.worstPlace();
  }

  public int together(int k, int what) {
    if (!isSomeStones(k) || !isEither(what)) return NO_SUCH;
    return mind.pairsThatFell(k, what == 1);
  }

  public int cut(int p) {
    int refusal = stoneRefused(p);
    return refusal != 0 ? refusal : mind.fewestToFell(p);
  }

  public int toGround() {
    return mind.fewestToLevel();
  }

  public int longest(int what) {
    if (!isEither(what)) return NO_SUCH;
    return what == 0 ? mind.longestRun() : mind.firstOfLongest();
  }

  public int game(int what) {
    if (!isEither(what)) return NO_SUCH;
    int first = mind.winningPlace();
    if (what == 1) return first;
    return first == NONE ? 0 : 1;
  }

  public long bombs(int t, int k, int part) {
    boolean asTold = t >= 2 && t <= 10 && k >= 0 && k <= PLACES && isEither(part);
    if (!asTold) return REFUSED_BY_LONGS - NO_SUCH;
    long above = mind.bombedWaysLeaving(k, t);
    long below = powerOf(t, Integer.bitCount(now.stones));
    long shared = commonDivisor(above, below);
    // below is a power of t >= 2, so what divides both is at least 1
    if (shared < 1) return REFUSED_BY_LONGS - NO_SUCH;
    return part == 0 ? above / shared : below / shared;
  }

  public int mostLoad(int what) {
    if (!isEither(what)) return NO_SUCH;
    int place = now.heaviestLaden();
    if (what == 1 || place == NONE) return place;
    // the search for the place has weighed all
    return now.loads[place];
  }

  // ---- notes, props

  public int which(int d, int what) {
    if (!isEither(what)) return NO_SUCH;
    int refusal = notesRefused(d);
    if (refusal != 0) return refusal;
    int suspects = mind.suspectsBy(shelves[d]);
    return what == 0 ? suspects : Integer.bitCount(suspects);
  }

  public int tapNext(int d) {
    int refusal = notesRefused(d);
    return refusal != 0 ? refusal : mind.bestTap(mind.suspectsBy(shelves[d]));
  }

  public int propsWanted() {
    return mind.fewestProps();
  }

  public int more(int p) {
    int refusal = stoneRefused(p);
    if (refusal != 0) return refusal;
    now.weighAll();
    return Math.max(0, Math.min(99, now.bears[p] - now.loads[p]));
  }

  public int lean(int what) {
    if (!isEither(what)) return REFUSED_BY_LONGS - NO_SUCH;
    return what == 0 ? now.leftOverRight() : now.heaviestColumn();
  }

  // ---- takings

  public int tins(int d, int what) {
    if (!isEither(what)) return NO_SUCH;
    int refusal = tinsRefused(d);
    if (refusal != 0) return refusal;
    return what == 0 ? mind.waysTold(shelves[d]) : mind.firstOfWays(shelves[d]);
  }

  public int forged(int d) {
    int refusal = tinsRefused(d);
    return refusal != 0 ? refusal : mind.firstForged(shelves[d]);
  }

  public int judge(int d) {
    int refusal = rowRefused(d);
    if (refusal != 0) return refusal;
    Shelf told = shelves[d];
    for (int i = 0; i < told.size; i++) {
      if (!isPlace(told.at(i))) return NO_SUCH_PLACE;
    }
    return mind.firstBadTaking(told);
  }

  public int raids(int n, int z, int what) {
    if (n < 1 || n > 20 || !isEither(what)) return NO_SUCH;
    return mind.sumOfRaids(n, z, what == 1);
  }

  public int felled(int k) {
    return isSomeStones(k) ? mind.fewestTakings(k) : NO_SUCH;
  }

  public int twins() {
    return mind.twinPairs();
  }

  public int highest(int what) {
    if (!isEither(what)) return NO_SUCH;
    return what == 0 ? now.highestRow() : now.inHighestRow();
  }

  public int depends(int p) {
    int refusal = stoneRefused(p);
    return refusal != 0 ? refusal : mind.supportsOf(p);
  }

  // ---- the image, what is told

  public int image() {
    imaged.becomeAs(now);
    hasImage = true;
    return Integer.bitCount(now.stones);
  }

  public int restore() {
    if (!hasImage) return NOT_SO;
    now.becomeAs(imaged);
    return Integer.bitCount(now.stones);
  }

  public int count(int what) {
    switch (what) {
      case 0: return Integer.bitCount(now.stones);
      case 1: return now.stones;
      case 2: return now.propped;
      case 3: return now.weightOf(now.stones);
      case 4: return now.allLoads();
      case 5: return Integer.bitCount(now.stones & GROUND);
      default: return NO_SUCH;
    }
  }

  // ---- shelves

  public int keep(int d, int what, int k, int figure) {
    if (!isShelf(d) || !isEither(what)) return NO_SUCH;
    if (what == 0) {
      shelves[d].clear();
      return 0;
    }
    if (k < 0 || k >= KINDS || figure < 0 || figure >= FIGURES) return NO_SUCH;
    shelves[d].holdKind(k, figure);
    return 0;
  }

  public int row(int d, int sort, int n) {
    if (!isShelf(d) || sort < 0 || sort >= SORTS || n > LONGEST_ROW) return NO_SUCH;
    if (n < 0) return SIZE_BELOW_ZERO;
    shelves[d].holdRow(sort, n);
    return 0;
  }

  public int put(int d, int i, int v) {
    int refusal = rowRefused(d);
    if (refusal != 0) return refusal;
    if (!shelves[d].hasPlace(i)) return NO_SUCH_PLACE;
    shelves[d].write(i, v);
    return 0;
  }

  public long element(int d, int i) throws IllegalArgumentException, IllegalStateException {
    if (!isShelf(d)) throw new IllegalArgumentException("no such shelf");
    if (!shelves[d].isRow()) throw new IllegalStateException("no row");
    if (!shelves[d].hasPlace(i)) throw new IllegalStateException("no such place");
    return shelves[d].at(i);
  }

  public int copy(int d, int i, int e, int j, int n) {
    if (!isShelf(d) || !isShelf(e)) return NO_SUCH;
    Shelf from = shelves[d];
    Shelf to = shelves[e];
    if (from.isEmpty() || to.isEmpty()) return NOTHING_HELD;
    if (!from.isRow() || !to.isRow() || from.sort != to.sort) return OTHER_KIND;
    if (!from.hasSpan(i, n) || !to.hasSpan(j, n)) return NO_SUCH_PLACE;
    System.arraycopy(from.elements, i, to.elements, j, n);
    return n;
  }

  public int cost(int d) {
    int refusal = kindRefused(d);
    if (refusal != 0) return refusal;
    Shelf shelf = shelves[d];
    return kinds[shelf.kind].price(shelf.figure);
  }

  public int toss(int d) {
    int refusal = kindRefused(d);
    if (refusal != 0) return refusal;
    Shelf shelf = shelves[d];
    return caughtOf(kinds[shelf.kind], shelf.figure);
  }

  // ---- what the calls refuse

  private static boolean isPlace(int p) {
    return p >= 0 && p < PLACES;
  }

  private static boolean isShelf(int d) {
    return d >= 0 && d < SHELVES;
  }

  private static boolean isEither(int what) {
    return what == 0 || what == 1;
  }

  private static boolean isSomeStones(int k) {
    return k >= 1 && k <= PLACES;
  }

  private int stoneRefused(int p) {
    if (!isPlace(p)) return NO_SUCH;
    return now.holds(p) ? 0 : NOT_SO;
  }

  private int kindRefused(int d) {
    if (!isShelf(d)) return NO_SUCH;
    if (shelves[d].isEmpty()) return NOTHING_HELD;
    return shelves[d].isRow() ? OTHER_KIND : 0;
  }

  private int rowRefused(int d) {
    if (!isShelf(d)) return NO_SUCH;
    if (shelves[d].isEmpty()) return NOTHING_HELD;
    return shelves[d].isRow() ? 0 : OTHER_KIND;
  }

  private int notesRefused(int d) {
    int refusal = rowRefused(d);
    if (refusal != 0) return refusal;
    Shelf heard = shelves[d];
    if (heard.size % 2 != 0) return NO_SUCH_PLACE;
    for (int i = 0; i < heard.size; i += 2) {
      int note = heard.at(i + 1);
      if (!isPlace(heard.at(i)) || note < 0 || note > SILENCE) return NO_SUCH_PLACE;
    }
    return 0;
  }

  private int tinsRefused(int d) {
    int refusal = rowRefused(d);
    if (refusal != 0) return refusal;
    return shelves[d].size > MOST_TINS ? NO_SUCH_PLACE : 0;
  }

  // ---- the text of a hall

  /** The place of the first byte that no text goes on with, the end if something lacks; -1 none. */
  private static int firstBadByte(Shelf text) {
    int at = 0;
    for (int statement = 0; statement <= LONGEST_ROW; statement++) {
      int digits = digitsBehind(text.at(at));
      if (digits == 0) return at;
      for (int i = 0; i < digits; i++) {
        at++;
        if (text.at(at) < '0' || text.at(at) > '9') return at;
      }
      at++;
      if (text.at(at) != ';') return at;
      at++;
      if (at >= text.size) return -1;
    }
    return at;
  }

  private static int digitsBehind(int letter) {
    if (letter == 's') return 4;
    return letter == 'x' || letter == 'p' ? 2 : 0;
  }

  private int doStatements(Shelf text) {
    before.becomeAs(now);
    int done = 0;
    int at = 0;
    for (int statement = 0; statement < LONGEST_ROW && at < text.size; statement++) {
      if (!doStatement(text, at)) {
        now.becomeAs(before);
        return -2000 - at;
      }
      done++;
      at += digitsBehind(text.at(at)) + 2;
    }
    return done;
  }

  private boolean doStatement(Shelf text, int at) {
    int p = 10 * digitAt(text, at + 1) + digitAt(text, at + 2);
    if (!isPlace(p)) return false;
    if (text.at(at) == 'p') {
      now.turnProp(p);
      return true;
    }
    if (text.at(at) == 'x') {
      if (!now.holds(p)) return false;
      now.takeOut(p);
      return true;
    }
    int kind = digitAt(text, at + 3);
    if (kind < 0 || kind >= KINDS || now.holds(p)) return false;
    now.lay(p, kind, digitAt(text, at + 4), kinds[kind]);
    return true;
  }

  private static int digitAt(Shelf text, int i) {
    return text.at(i) - '0';
  }

  // ---- numbers

  private static long powerOf(int base, int exponent) {
    long power = 1;
    for (int i = 0; i < exponent; i++) power *= base;
    return power;
  }

  private static long commonDivisor(long a, long b) {
    long greater = b;
    long lesser = a;
    // each two turns halve the greater at least: 64 bits are gone long before 200 turns
    for (int turn = 0; turn < 200 && lesser != 0; turn++) {
      long rest = greater % lesser;
      greater = lesser;
      lesser = rest;
    }
    return greater;
  }

  // ---- kinds

  private static int caughtOf(Stone kind, int figure) {
    try {
      kind.fail(figure);
    } catch (UnsupportedOperationException ofStep) {
      return 200 + kind.price(figure);
    } catch (IllegalArgumentException ofCorner) {
      return 100 + figure;
    } catch (IllegalStateException ofStone) {
      return figure;
    }
    return NO_FAILURE;
  }

  private static class Stone {
    int weight(int figure) {
      return 2 + figure;
    }

    int bears(int figure) {
      return 20;
    }

    int price(int figure) {
      return 2;
    }

    /** How it is held where no stone is below it. */
    int manner() {
      return PLAIN;
    }

    /** Throws its failure; one that has none does nothing. */
    void fail(int figure) {
      if (figure != 0) throw new IllegalStateException("a stone fails");
    }
  }

  private static class Corner extends Stone {
    int weight(int figure) {
      return super.weight(figure) + 3;
    }

    int bears(int figure) {
      return 2 * super.bears(figure);
    }

    int price(int figure) {
      return super.price(figure) + figure;
    }

    void fail(int figure) {
      if (figure != 0) throw new IllegalArgumentException("a corner fails");
    }
  }

  private static class Arch extends Stone {
    int weight(int figure) {
      return super.weight(figure) - 1;
    }

    int bears(int figure) {
      return super.bears(figure) - 8;
    }

    int price(int figure) {
      return super.price(figure) + 3;
    }

    int manner() {
      return ARCHED;
    }
  }

  private static class Plaster extends Stone {
    int weight(int figure) {
      return 1;
    }

    int bears(int figure) {
      return 3;
    }

    int price(int figure) {
      return super.price(figure) - 1;
    }

    int manner() {
      return STUCK;
    }

    void fail(int figure) {
      // plaster has no failure
    }
  }

  private static final class Key extends Arch {
    int weight(int figure) {
      return super.weight(figure) + figure;
    }

    int bears(int figure) {
      return super.bears(figure) + figure;
    }

    int price(int figure) {
      return super.price(figure) + figure;
    }
  }

  private static final class Step extends Corner {
    int bears(int figure) {
      return super.bears(figure) - figure;
    }

    int price(int figure) {
      return 2 * super.price(figure);
    }

    void fail(int figure) {
      if (figure != 0) throw new UnsupportedOperationException("a step fails");
    }
  }

  private static final class Beam extends Arch {
    int weight(int figure) {
      return 2 * super.weight(figure);
    }

    int bears(int figure) {
      return super.bears(figure) / 2;
    }

    int price(int figure) {
      return super.price(figure) / 2;
    }

    int manner() {
      return BEAMED;
    }
  }

  private static final class Mouse extends Plaster {
    int weight(int figure) {
      return 0;
    }

    int bears(int figure) {
      return 0;
    }
  }

  /** The stones and props there are. A set of places is a number with a bit for each. */
  private static final class Hall {
    private final int[] kinds = new int[PLACES];
    private final int[] figures = new int[PLACES];
    private final int[] weights = new int[PLACES];
    private final int[] bears = new int[PLACES];
    private final int[] manners = new int[PLACES];
    private final int[] loads = new int[PLACES];
    private int stones = 0;
    private int propped = 0;
    // places where what was laid last is what plaster sticks to
    private int firm = 0;
    // goes up whenever what was once worked out for a set of places may no longer hold
    private int changes = 0;

    boolean holds(int p) {
      return has(stones, p);
    }

    private static boolean has(int set, int p) {
      return (set >> p & 1) != 0;
    }

    void becomeAs(Hall other) {
      System.arraycopy(other.kinds, 0, kinds, 0, PLACES);
      System.arraycopy(other.figures, 0, figures, 0, PLACES);
      System.arraycopy(other.weights, 0, weights, 0, PLACES);
      System.arraycopy(other.bears, 0, bears, 0, PLACES);
      System.arraycopy(other.manners, 0, manners, 0, PLACES);
      stones = other.stones;
      propped = other.propped;
      firm = other.firm;
      changes++;
    }

    int lay(int p, int kind, int figure, Stone stone) {
      kinds[p] = kind;
      figures[p] = figure;
      weights[p] = stone.weight(figure);
      bears[p] = stone.bears(figure);
      manners[p] = stone.manner();
      firm = manners[p] == STUCK ? firm & ~(1 << p) : firm | 1 << p;
      stones |= 1 << p;
      changes++;
      return settle();
    }

    int takeOut(int p) {
      stones &= ~(1 << p);
      return settle();
    }

    int turnProp(int p) {
      propped ^= 1 << p;
      changes++;
      return settle();
    }

    private int settle() {
      int left = leftOf(stones);
      int fallen = Integer.bitCount(stones) - Integer.bitCount(left);
      stones = left;
      return fallen;
    }

    int leftOf(int set) {
      int left = set;
      // a step lets one fall at least, so there are no more steps than places
      for (int step = 0; step <= PLACES; step++) {
        int loose = looseIn(left, propped);
        if (loose == 0) return left;
        left &= ~loose;
      }
      return left;
    }

    int stepsFrom(int set) {
      int left = set;
      for (int step = 0; step <= PLACES; step++) {
        int loose = looseIn(left, propped);
        if (loose == 0) return step;
        left &= ~loose;
      }
      return PLACES;
    }

    /** Those of a set that fall at once by some props; loads then tells what is on each. */
    int looseIn(int set, int props) {
      Arrays.fill(loads, 0);
      int loose = 0;
      // from above: what lies on a place is all there before it hands its load on
      for (int p = PLACES - 1; p >= 0; p--) {
        int bit = 1 << p;
        if ((set & bit) == 0) continue;
        boolean held = p < COLUMNS || (props & bit) != 0 || restsIn(set, p);
        if (!held || loads[p] > bears[p]) loose |= bit;
      }
      return loose;
    }

    /** Whether one above the ground, without a prop, is held; it loads what it lies on. */
    private boolean restsIn(int set, int p) {
      int below = p - COLUMNS;
      int all = weights[p] + loads[p];
      if ((set >> below & 1) != 0) {
        loads[below] += all;
        return true;
      }
      boolean left = p % COLUMNS > 0 && (set >> below - 1 & 1) != 0;
      boolean right = p % COLUMNS < COLUMNS - 1 && (set >> below + 1 & 1) != 0;
      switch (manners[p]) {
        case ARCHED:
          if (!left || !right) return false;
          loads[below - 1] += all / 2;
          loads[below + 1] += all - all / 2;
          return true;
        case BEAMED:
          if (!left && !right) return false;
          loads[left ? below - 1 : below + 1] += all;
          return true;
        case STUCK:
          return (set & firm & BESIDE[p]) != 0;
        default:
          return false;
      }
    }

    void weighAll() {
      weighIn(stones);
    }

    void weighIn(int set) {
      looseIn(set, propped);
    }

    int noteAt(int p) {
      return (7 * weights[p] + 3 * loads[p]) % 50;
    }

    int heaviestLaden() {
      weighAll();
      int place = NONE;
      int most = -1;
      for (int p = 0; p < PLACES; p++) {
        if (holds(p) && loads[p] > most) {
          most = loads[p];
          place = p;
        }
      }
      return place;
    }

    int allLoads() {
      weighAll();
      int sum = 0;
      for (int p = 0; p < PLACES; p++) {
        if (holds(p)) sum += loads[p];
      }
      return sum;
    }

    int weightOf(int set) {
      int sum = 0;
      for (int p = 0; p < PLACES; p++) {
        if (has(set, p)) sum += weights[p];
      }
      return sum;
    }

    private int columnWeight(int column) {
      int places = (1 | 1 << COLUMNS | 1 << 2 * COLUMNS) << column;
      return weightOf(stones & places);
    }

    int leftOverRight() {
      return columnWeight(0) + columnWeight(1) - columnWeight(2) - columnWeight(3);
    }

    int heaviestColumn() {
      int heaviest = 0;
      for (int column = 1; column < COLUMNS; column++) {
        if (columnWeight(column) > columnWeight(heaviest)) heaviest = column;
      }
      return heaviest;
    }

    int highestRow() {
      for (int p = PLACES - 1; p >= 0; p--) {
        if (holds(p)) return p / COLUMNS;
      }
      return NONE;
    }

    int inHighestRow() {
      int row = highestRow();
      return row == NONE ? NONE : Integer.bitCount(stones & (GROUND << COLUMNS * row));
    }
  }

  /** Looks ahead: works out in mind what becomes of the hall, and changes none of it. */
  private static final class Foresight {
    private static final int UNKNOWN = -1;
    private static final int WITHOUT_SIGN = 0x7fffffff;
    // all choices of no more than four places
    private static final int SMALL_CHOICES = 1 + 12 + 66 + 220 + 495;

    private final Hall hall = new Hall();
    private final int[] settled = new int[ALL + 1];
    private final int[] worth = new int[ALL + 1];
    private final long[] heard = new long[PLACES];
    private final long[] odds = new long[PLACES + 1];
    private int seen = UNKNOWN;

    /** What is left of a set of the hall's places when it has settled. */
    private int leftOf(int set) {
      if (seen != hall.changes) {
        Arrays.fill(settled, UNKNOWN);
        seen = hall.changes;
      }
      int places = set & ALL;
      if (settled[places] == UNKNOWN) settled[places] = hall.leftOf(places);
      return settled[places];
    }

    int fallenWithout(int taken) {
      int others = hall.stones & ~taken;
      return others & ~leftOf(others);
    }

    private int countWithout(int taken) {
      return Integer.bitCount(fallenWithout(taken));
    }

    /** Whether one is in a set and none of the others falls when it is taken out. */
    private boolean isSafeIn(int set, int p) {
      int others = set & ~(1 << p);
      return others != set && leftOf(others) == others;
    }

    int cornerstones() {
      int found = 0;
      for (int p = 0; p < PLACES; p++) {
        int others = hall.stones & ~(1 << p);
        if (hall.holds(p) && others != 0 && leftOf(others) == 0) found |= 1 << p;
      }
      return found;
    }

    int safeOnes() {
      int found = 0;
      for (int p = 0; p < PLACES; p++) {
        if (hall.holds(p) && fallenWithout(1 << p) == 0) found |= 1 << p;
      }
      return found;
    }

    int worstPlace() {
      int place = NONE;
      int most = -1;
      for (int p = 0; p < PLACES; p++) {
        if (hall.holds(p) && countWithout(1 << p) > most) {
          most = countWithout(1 << p);
          place = p;
        }
      }
      return place;
    }

    int pairsThatFell(int k, boolean first) {
      int safe = safeOnes();
      int pairs = 0;
      for (int a = 0; a < PLACES; a++) {
        for (int b = a + 1; b < PLACES; b++) {
          int pair = 1 << a | 1 << b;
          if ((safe & pair) != pair || countWithout(pair) < k) continue;
          if (first) return 100 * a + b;
          pairs++;
        }
      }
      return first ? NONE : pairs;
    }

    /** The choice behind a choice, by how many places it has and then by number. */
    private static int nextChoice(int choice) {
      int last = (2 << Integer.bitCount(choice)) - 1;
      if (choice == 0) return last;
      // the lowest run of ones: its highest moves up by one, the others to the bottom
      int lowest = choice & -choice;
      int carried = choice + lowest;
      int moved = (choice ^ carried) >>> (2 + Integer.bitCount(lowest - 1));
      return (carried | moved) <= ALL ? carried | moved : last;
    }

    int fewestToFell(int p) {
      int others = hall.stones & ~(1 << p);
      int choice = 0;
      for (int i = 0; i <= ALL; i++) {
        boolean there = (choice & ~others) == 0;
        if (there && (leftOf(hall.stones & ~choice) >> p & 1) == 0) return choice;
        choice = nextChoice(choice);
      }
      return NONE;
    }

    int fewestToLevel() {
      int choice = 0;
      for (int i = 0; i <= ALL; i++) {
        boolean there = (choice & ~hall.stones) == 0;
        if (there && (leftOf(hall.stones & ~choice) & ~GROUND) == 0) return choice;
        choice = nextChoice(choice);
      }
      return hall.stones;
    }

    int longestRun() {
      Arrays.fill(worth, UNKNOWN);
      return runFrom(hall.stones, 0);
    }

    int firstOfLongest() {
      Arrays.fill(worth, UNKNOWN);
      int most = runFrom(hall.stones, 0);
      for (int p = 0; p < PLACES; p++) {
        if (!isSafeIn(hall.stones, p)) continue;
        if (1 + runFrom(hall.stones & ~(1 << p), 1) == most) return p;
      }
      return NONE;
    }

    private int runFrom(int set, int taken) {
      if (taken > PLACES) return 0;
      if (worth[set] != UNKNOWN) return worth[set];
      int most = 0;
      for (int p = 0; p < PLACES; p++) {
        if (isSafeIn(set, p)) most = Math.max(most, 1 + runFrom(set & ~(1 << p), taken + 1));
      }
      worth[set] = most;
      return most;
    }

    int winningPlace() {
      Arrays.fill(worth, UNKNOWN);
      return winningPlaceIn(hall.stones, 0);
    }

    private int winningPlaceIn(int set, int taken) {
      if (taken > PLACES) return NONE;
      if (worth[set] != UNKNOWN) return worth[set];
      int winning = NONE;
      for (int p = 0; p < PLACES && winning == NONE; p++) {
        if (!isSafeIn(set, p)) continue;
        if (winningPlaceIn(set & ~(1 << p), taken + 1) == NONE) winning = p;
      }
      worth[set] = winning;
      return winning;
    }

    /** Of t to the number of stones ways, those in which k or more are left. */
    long bombedWaysLeaving(int k, int t) {
      for (int spared = 0; spared <= PLACES; spared++) odds[spared] = powerOf(t - 1, spared);
      long ways = 0;
      for (int spared = 0; spared <= ALL; spared++) {
        if ((spared & ~hall.stones) != 0) continue;
        if (Integer.bitCount(leftOf(spared)) >= k) ways += odds[Integer.bitCount(spared)];
      }
      return ways;
    }

    /** Those that could be what was taken out, by pairs of a place and the note heard there. */
    int suspectsBy(Shelf notes) {
      int suspects = 0;
      for (int p = 0; p < PLACES; p++) {
        if (hall.holds(p) && soundsAs(leftOf(hall.stones & ~(1 << p)), notes)) suspects |= 1 << p;
      }
      return suspects;
    }

    private boolean soundsAs(int set, Shelf notes) {
      hall.weighIn(set);
      for (int i = 0; i + 1 < notes.size; i += 2) {
        if (noteIn(set, notes.at(i)) != notes.at(i + 1)) return false;
      }
      return true;
    }

    private int noteIn(int weighed, int p) {
      return (weighed >> p & 1) == 0 ? SILENCE : hall.noteAt(p);
    }

    int bestTap(int suspects) {
      if (Integer.bitCount(suspects) < 2) return NONE;
      hearAll(suspects);
      int best = 0;
      for (int q = 1; q < PLACES; q++) {
        if (Long.bitCount(heard[q]) > Long.bitCount(heard[best])) best = q;
      }
      return best;
    }

    /** Notes (bits) that each place would have, were one or the other of the suspects out. */
    private void hearAll(int suspects) {
      Arrays.fill(heard, 0L);
      for (int p = 0; p < PLACES; p++) {
        if ((suspects >> p & 1) == 0) continue;
        int left = leftOf(hall.stones & ~(1 << p));
        hall.weighIn(left);
        for (int q = 0; q < PLACES; q++) heard[q] |= 1L << noteIn(left, q);
      }
    }

    int fewestProps() {
      // a prop more only takes load off and holds, so what is safe stays so
      int unsafe = hall.stones & ~safeOnes();
      int choice = 0;
      for (int i = 0; i < SMALL_CHOICES; i++) {
        boolean free = (choice & hall.propped) == 0;
        if (free && areSafe(unsafe, hall.propped | choice)) return choice;
        choice = nextChoice(choice);
      }
      return NONE;
    }

    private boolean areSafe(int places, int props) {
      for (int p = 0; p < PLACES; p++) {
        boolean asked = (places >> p & 1) != 0;
        if (asked && hall.looseIn(hall.stones & ~(1 << p), props) != 0) return false;
      }
      return true;
    }

    int waysTold(Shelf told) {
      return waysFrom(hall.stones, told, 0);
    }

    int firstOfWays(Shelf told) {
      for (int p = 0; p < PLACES && told.size > 0; p++) {
        if (!isTold(hall.stones, p, told.at(0))) continue;
        if (waysFrom(leftOf(hall.stones & ~(1 << p)), told, 1) > 0) return p;
      }
      return NONE;
    }

    /** In how many ways the rest of a row, from i on, tells what was left behind takings. */
    private int waysFrom(int set, Shelf told, int i) {
      if (i >= told.size || i >= MOST_TINS) return 1;
      int ways = 0;
      for (int p = 0; p < PLACES; p++) {
        if (isTold(set, p, told.at(i))) ways += waysFrom(leftOf(set & ~(1 << p)), told, i + 1);
      }
      return ways;
    }

    private boolean isTold(int set, int p, int told) {
      return (set >> p & 1) != 0 && Integer.bitCount(leftOf(set & ~(1 << p))) == told;
    }

    int firstForged(Shelf told) {
      int believed = believedFrom(hall.stones, told, 0);
      return believed == told.size ? NONE : believed;
    }

    /** Up to which place of a row there is a way, if there is one up to i. */
    private int believedFrom(int set, Shelf told, int i) {
      if (i >= told.size || i >= MOST_TINS) return i;
      int believed = i;
      for (int p = 0; p < PLACES; p++) {
        if (!isTold(set, p, told.at(i))) continue;
        believed = Math.max(believed, believedFrom(leftOf(set & ~(1 << p)), told, i + 1));
      }
      return believed;
    }

    int firstBadTaking(Shelf places) {
      int left = hall.stones;
      for (int i = 0; i < places.size; i++) {
        if (!isSafeIn(left, places.at(i))) return i;
        left &= ~(1 << places.at(i));
      }
      return NONE;
    }

    /** Over all raids: how many are left, or how often all of the ground is. */
    int sumOfRaids(int n, int seed, boolean ofGround) {
      int ground = hall.stones & GROUND;
      int z = seed;
      int sum = 0;
      for (int raid = 0; raid < n; raid++) {
        int left = hall.stones;
        for (int bomb = 0; bomb < 3; bomb++) {
          z = drawn(z);
          left = leftOf(left & ~(1 << placeOf(z)));
        }
        if (!ofGround) sum += Integer.bitCount(left);
        else if ((left & ground) == ground) sum++;
      }
      return sum;
    }

    private static int drawn(int z) {
      return z * 1103515245 + 12345;
    }

    private static int placeOf(int z) {
      return (z & WITHOUT_SIGN) / 65536 % PLACES;
    }

    /** The fewest takings till k have fallen: by the fewest that lead to each set. */
    int fewestTakings(int k) {
      Arrays.fill(worth, UNKNOWN);
      worth[hall.stones] = 0;
      int fewest = NONE;
      // a taking leads to a lesser number, so from above each set is done before it goes on
      for (int set = hall.stones; set > 0; set--) {
        if (worth[set] == UNKNOWN) continue;
        spreadTakings(set);
      }
      for (int set = 0; set <= ALL; set++) {
        if (worth[set] == UNKNOWN) continue;
        int fallen = Integer.bitCount(hall.stones) - Integer.bitCount(set) - worth[set];
        if (fallen >= k && (fewest == NONE || worth[set] < fewest)) fewest = worth[set];
      }
      return fewest;
    }

    private void spreadTakings(int set) {
      for (int p = 0; p < PLACES; p++) {
        if ((set >> p & 1) == 0) continue;
        int left = leftOf(set & ~(1 << p));
        if (worth[left] == UNKNOWN || worth[left] > worth[set] + 1) worth[left] = worth[set] + 1;
      }
    }

    int twinPairs() {
      int pairs = 0;
      for (int a = 0; a < PLACES; a++) {
        for (int b = a + 1; b < PLACES; b++) {
          if (hall.holds(a) && hall.holds(b) && areTwins(1 << a, 1 << b)) pairs++;
        }
      }
      return pairs;
    }

    private boolean areTwins(int a, int b) {
      int other = leftOf(hall.stones & ~a) ^ leftOf(hall.stones & ~b);
      return (other & ~(a | b)) == 0;
    }

    int supportsOf(int p) {
      int found = 0;
      for (int q = 0; q < PLACES; q++) {
        boolean other = q != p && hall.holds(q);
        if (other && (fallenWithout(1 << q) >> p & 1) != 0) found |= 1 << q;
      }
      return found;
    }
  }

  /** What lies on one shelf: nothing, a kind of stone, or a row. */
  private static final class Shelf {
    private static final int NOTHING = 0;
    private static final int KIND = 1;
    private static final int ROW = 2;

    private int holding = NOTHING;
    private int kind = 0;
    private int figure = 0;
    private int sort = 0;
    private int size = 0;
    private final int[] elements = new int[LONGEST_ROW];

    void clear() {
      holding = NOTHING;
      size = 0;
    }

    void holdKind(int newKind, int newFigure) {
      holding = KIND;
      kind = newKind;
      figure = newFigure;
      size = 0;
    }

    void holdRow(int newSort, int newSize) {
      holding = ROW;
      sort = newSort;
      size = newSize;
      Arrays.fill(elements, 0);
    }

    boolean isEmpty() {
      return holding == NOTHING;
    }

    boolean isRow() {
      return holding == ROW;
    }

    boolean hasPlace(int i) {
      return i >= 0 && i < size;
    }

    /** Whether n elements stand there from i on. */
    boolean hasSpan(int i, int n) {
      return i >= 0 && n >= 0 && i <= size && n <= size - i;
    }

    /** An element; -1 where there is none. */
    int at(int i) {
      return hasPlace(i) ? elements[i] : -1;
    }

    void write(int i, int v) {
      if (sort == BYTES) elements[i] = (byte) v;
      else if (sort == SHORTS) elements[i] = (short) v;
      else elements[i] = v;
    }
  }
}
