import java.util.Arrays;

/** Promises 22 to 32: the boundary cases of takings, the image, what is told. */
public final class TakingEdgesTest {
  private static final Edges EDGES = new Edges();
  private static final String COLUMN = "s0000;s0400;s0800;";
  private static final String GROUND = "s0000;s0100;s0200;s0300;";
  private static final String FULL =
      "s0010;s0110;s0210;s0310;s0400;s0500;s0600;s0700;s0800;s0900;s1000;s1100;";
  private static final int EMPTY = 0;
  private static final int KIND = 1;
  private static final int ROW = 2;
  private static final int LONG_ROW = 3;

  public static void main(String[] args) {
    EDGES.test(22, "TINS by the ROW in SHELF d: ways (what 0), the first PLACE (1; -4). -1, -11, -12 (no ROW)",
        TakingEdgesTest::tinsRefused);
    EDGES.test(22, "-13 more than 4", TakingEdgesTest::fourTinsAtMost);
    EDGES.test(22, "PLACES in order, 4 takings at most", TakingEdgesTest::noTinsAndTooMany);
    EDGES.test(22, "the first PLACE of the first such; -4", TakingEdgesTest::firstOfTins);

    EDGES.test(23, "FORGED by the ROW in SHELF d; -4. -1, -11, -12, -13 likewise.",
        TakingEdgesTest::forgedRefused);
    EDGES.test(23, "the first place at which there is no way up to it; -4", TakingEdgesTest::firstForged);

    EDGES.test(24, "JUDGED by the ROW in SHELF d; -4. -1, -11, -12", TakingEdgesTest::judgeRefused);
    EDGES.test(24, "-13 no such PLACE", TakingEdgesTest::judgedWhereNoPlaceIs);
    EDGES.test(24, "the first at which another STONE FALLS, or that is empty; -4", TakingEdgesTest::firstJudged);

    EDGES.test(25, "RAIDS: all that are left (what 0), ROW 0 (1). -1.", TakingEdgesTest::raidsRefused);
    EDGES.test(25, "n raids (1 .. 20), each from now", TakingEdgesTest::fewestAndMostRaids);
    EDGES.test(25, "(an empty PLACE is hit for nothing)", TakingEdgesTest::raidsOnEmptyPlaces);
    EDGES.test(25, "in how many all of ROW 0 there is now is left", TakingEdgesTest::rowZeroWithoutStones);
    EDGES.test(25, "plus 12345 (an int); (z without its sign's bit over 65536, cut) modulo n",
        TakingEdgesTest::seedsThatWrap);

    EDGES.test(26, "FELLED; -4. -1.", TakingEdgesTest::felledRefused);
    EDGES.test(26, "till k (1 .. 12) or more have FALLEN by themselves, together; -4", TakingEdgesTest::justKFelled);

    EDGES.test(27, "leaves the same PLACES but these two: how many", TakingEdgesTest::twins);

    EDGES.test(28, "HIGHEST: the ROW (what 0; -4), how many (1; -4). -1.", TakingEdgesTest::highestRefused);
    EDGES.test(28, "HIGHEST: the ROW of the highest STONE; -4; how many there", TakingEdgesTest::highestRows);

    EDGES.test(29, "DEPENDS (bits). -1, -3.", TakingEdgesTest::dependsRefused);
    EDGES.test(29, "each taken out alone, let that at a PLACE FALL", TakingEdgesTest::dependsOnOthersAlone);

    EDGES.test(30, "THE IMAGE is taken: how many STONES.", TakingEdgesTest::fewestAndMostImaged);
    EDGES.test(31, "how many STONES. -3 there is none.", TakingEdgesTest::restoreOfNone);
    EDGES.test(31, "all that there is, but SHELVES (and THE IMAGE); RESTORED all is as it was then",
        TakingEdgesTest::restoredAsItWas);
    EDGES.test(31, "when THE IMAGE is RESTORED, SHELVES stay as they are", TakingEdgesTest::shelvesStay);

    EDGES.test(32, "-1 for others", TakingEdgesTest::countRefused);
    EDGES.test(32, "0 STONES, 1 which PLACES hold one (bits), 2 PROPS (bits), 3 all WEIGHT, 4 all LOADS, 5 STONES in ROW 0",
        TakingEdgesTest::countOfNoneAndAll);
    EDGES.test(32, "REFUSALS (answers; nothing changes)", TakingEdgesTest::refusalsLeaveTheImage);
    EDGES.end(22, 32);
  }

  private static void due(String call, long got, long want) {
    EDGES.due(call, got, want);
  }

  private static CornerstoneSought column() {
    return Halls.of(COLUMN);
  }

  /** A column of three, and shelves with nothing, a kind, a row of two, a row of five. */
  private static CornerstoneSought ready() {
    CornerstoneSought x = column();
    x.keep(KIND, 1, 0, 1);
    Halls.row(x, ROW, 0, 2, 1);
    Halls.row(x, LONG_ROW, 0, 2, 1, 0, 0, 0);
    return x;
  }

  // ---- lunch tins, forged notes, takings as told

  private static void tinsRefused() {
    for (int what = 0; what <= 1; what++) {
      int asked = what;
      EDGES.refused("shelf", TakingEdgesTest::ready, (x, d) -> x.tins(d, asked), Edges.NO_SHELVES, -1);
      EDGES.refused("nothing", TakingEdgesTest::ready, x -> x.tins(EMPTY, asked), -11);
      EDGES.refused("a kind", TakingEdgesTest::ready, x -> x.tins(KIND, asked), -12);
      EDGES.refused("too many", TakingEdgesTest::ready, x -> x.tins(LONG_ROW, asked), -13);
    }
    for (int d : new int[] {EMPTY, KIND, ROW, LONG_ROW}) {
      EDGES.refused("what", TakingEdgesTest::ready, (x, what) -> x.tins(d, what), Edges.NEITHER, -1);
    }
    for (int d = 0; d < 8; d += 7) {
      CornerstoneSought x = column();
      Halls.row(x, d, 2, 2, 1);
      due("shelf " + d, x.tins(d, 0), 1);
    }
  }

  private static void dueTins(String text, int ways, int first, int... row) {
    for (int sort = 0; sort <= 2; sort++) {
      CornerstoneSought x = Halls.of(text);
      Halls.row(x, ROW, sort, row);
      String call = text + " " + Arrays.toString(row) + " sort " + sort;
      due("ways " + call, x.tins(ROW, 0), ways);
      due("first " + call, x.tins(ROW, 1), first);
    }
  }

  private static void fourTinsAtMost() {
    dueTins(GROUND, 24, 0, 3, 2, 1, 0);
    dueTins(GROUND, -13, -13, 3, 2, 1, 0, 0);
    dueTins(GROUND, -13, -13, new int[100]);
    dueTins(COLUMN, 0, -4, 2, 1, 0, 0);
  }

  private static void noTinsAndTooMany() {
    dueTins(GROUND, 1, -4);
    dueTins("p00;", 1, -4);
    dueTins("p00;", 0, -4, 0);
    dueTins("p00;", 0, -4, -1);
    dueTins(COLUMN, 0, -4, 3);
    dueTins(COLUMN, 0, -4, -1);
    dueTins(COLUMN, 0, -4, Edges.GREATEST);
    // the top one of any column, but not four of one column of three
    dueTins(FULL, 4, 8, 11);
    dueTins(FULL, 4 * 4 * 4 * 4 - 4, 8, 11, 10, 9, 8);
    dueTins(FULL, 0, -4, 12);
    dueTins(COLUMN, 1, 8, 2, 1, 0);
  }

  private static void firstOfTins() {
    dueTins(COLUMN, 1, 0, 0);
    dueTins(COLUMN, 1, 4, 1);
    dueTins(COLUMN, 1, 8, 2);
    dueTins(COLUMN, 1, 4, 1, 0);
    dueTins("s0100;s0200;", 2, 1, 1);
    dueTins("s0100;s0200;", 2, 1, 1, 0);
    dueTins("s0100;s0500;s0200;", 1, 2, 2, 0);
    dueTins("p11;s1100;", 1, 11, 0);
  }

  private static void forgedRefused() {
    EDGES.refused("shelf", TakingEdgesTest::ready, (x, d) -> x.forged(d), Edges.NO_SHELVES, -1);
    EDGES.refused("nothing", TakingEdgesTest::ready, x -> x.forged(EMPTY), -11);
    EDGES.refused("a kind", TakingEdgesTest::ready, x -> x.forged(KIND), -12);
    EDGES.refused("too many", TakingEdgesTest::ready, x -> x.forged(LONG_ROW), -13);
    for (int d = 0; d < 8; d += 7) {
      CornerstoneSought x = column();
      Halls.row(x, d, 1, 3);
      due("shelf " + d, x.forged(d), 0);
    }
  }

  private static void dueForged(String text, int place, int... row) {
    CornerstoneSought x = Halls.of(text);
    Halls.row(x, ROW, 2, row);
    due(text + " " + Arrays.toString(row), x.forged(ROW), place);
  }

  private static void firstForged() {
    dueForged(COLUMN, -4);
    dueForged(COLUMN, -4, 2, 1, 0);
    dueForged(COLUMN, 0, 3, 1, 0);
    dueForged(COLUMN, 1, 2, 2, 0);
    dueForged(COLUMN, 2, 2, 1, 1);
    dueForged(COLUMN, 3, 2, 1, 0, 0);
    dueForged(COLUMN, 1, 0, 0);
    dueForged(COLUMN, 0, -1);
    dueForged(GROUND, -4, 3, 2, 1, 0);
    dueForged(GROUND, 3, 3, 2, 1, 1);
    dueForged(GROUND, -13, 3, 2, 1, 0, 0);
    dueForged("p00;", -4);
    dueForged("p00;", 0, 0);
    // by one way up to 1, by another up to 2
    dueForged("s0000;s0400;s0100;s0500;", 2, 3, 1, 1);
  }

  private static void judgeRefused() {
    EDGES.refused("shelf", TakingEdgesTest::ready, (x, d) -> x.judge(d), Edges.NO_SHELVES, -1);
    EDGES.refused("nothing", TakingEdgesTest::ready, x -> x.judge(EMPTY), -11);
    EDGES.refused("a kind", TakingEdgesTest::ready, x -> x.judge(KIND), -12);
    due("five are not too many", ready().judge(LONG_ROW), 0);
    for (int d = 0; d < 8; d += 7) {
      CornerstoneSought x = column();
      Halls.row(x, d, 1, 8, 0);
      due("shelf " + d, x.judge(d), 1);
    }
  }

  private static CornerstoneSought judged(String text, int... row) {
    CornerstoneSought x = Halls.of(text);
    Halls.row(x, ROW, 2, row);
    return x;
  }

  private static void judgedWhereNoPlaceIs() {
    for (int p : Edges.NO_PLACES) {
      EDGES.refused("alone " + p, () -> judged(COLUMN, p), x -> x.judge(ROW), -13);
      EDGES.refused("the last " + p, () -> judged(COLUMN, 8, 4, p), x -> x.judge(ROW), -13);
      EDGES.refused("behind a bad one " + p, () -> judged(COLUMN, 0, p), x -> x.judge(ROW), -13);
    }
    int[] full = new int[100];
    full[99] = 12;
    EDGES.refused("the hundredth", () -> judged(COLUMN, full), x -> x.judge(ROW), -13);
    due("place 0", judged("s0000;", 0).judge(ROW), -4);
    due("place 11", judged("p11;s1100;", 11).judge(ROW), -4);
  }

  private static void firstJudged() {
    due("none told", judged(COLUMN).judge(ROW), -4);
    due("none told of none", judged("p00;").judge(ROW), -4);
    due("all", judged(COLUMN, 8, 4, 0).judge(ROW), -4);
    due("the first falls", judged(COLUMN, 4, 8).judge(ROW), 0);
    due("the second falls", judged(COLUMN, 8, 0).judge(ROW), 1);
    due("the first is empty", judged(COLUMN, 11, 8).judge(ROW), 0);
    due("it is taken already", judged(COLUMN, 8, 8).judge(ROW), 1);
    due("all are taken", judged(COLUMN, 8, 4, 0, 0).judge(ROW), 3);
    due("one place of none", judged("p00;", 0).judge(ROW), 0);
    due("a hundred", judged("s0000;", new int[100]).judge(ROW), 1);
    CornerstoneSought x = judged(COLUMN, 4, 0);
    x.takes(8);
    due("from now", x.judge(ROW), -4);
    due("now is as it was", x.count(1), 17);
  }

  // ---- raids

  private static void raidsRefused() {
    int[] noRaids = {Edges.LEAST, -1, 0, 21, Edges.GREATEST};
    for (int what = 0; what <= 1; what++) {
      int asked = what;
      EDGES.refused("n", TakingEdgesTest::ready, (x, n) -> x.raids(n, 0, asked), noRaids, -1);
    }
    EDGES.refused("what", TakingEdgesTest::ready, (x, what) -> x.raids(1, 0, what), Edges.NEITHER, -1);
    EDGES.refused("what of 20", TakingEdgesTest::ready, (x, what) -> x.raids(20, 0, what), Edges.NEITHER, -1);
  }

  /** The places that n bombs hit, worked out in longs without a sign. */
  private static int[] draws(int seed, int n) {
    int[] places = new int[n];
    long z = seed & 0xffffffffL;
    for (int i = 0; i < n; i++) {
      z = (z * 1103515245L + 12345) & 0xffffffffL;
      places[i] = (int) ((z & 0x7fffffffL) / 65536 % 12);
    }
    return places;
  }

  /** Raids on a hall, each bomb a taking in a new hall by the text. */
  private static void dueRaids(String text, int n, int seed) {
    int[] places = draws(seed, 3 * n);
    int left = 0;
    int spared = 0;
    for (int raid = 0; raid < n; raid++) {
      CornerstoneSought y = Halls.of(text);
      int ground = y.count(5);
      for (int bomb = 0; bomb < 3; bomb++) y.takes(places[3 * raid + bomb]);
      left += y.count(0);
      if (y.count(5) == ground) spared++;
    }
    CornerstoneSought x = Halls.of(text);
    due(n + " raids by " + seed + " on " + text, x.raids(n, seed, 0), left);
    due(n + " raids by " + seed + " on row 0 of " + text, x.raids(n, seed, 1), spared);
    due("behind them all are there", x.count(0), Halls.of(text).count(0));
  }

  private static void fewestAndMostRaids() {
    for (int n : new int[] {1, 2, 19, 20}) {
      dueRaids(FULL, n, 0);
      dueRaids(COLUMN + "s0300;s0761;", n, 7);
    }
  }

  private static void raidsOnEmptyPlaces() {
    due("no stones", Halls.of("p00;").raids(20, 1, 0), 0);
    // seed 0 hits 0 first, then two others
    dueRaids("s0000;", 1, 0);
    dueRaids("s0100;s0200;s0300;", 1, 0);
    dueRaids("s0000;s0400;s0561;", 20, 3);
  }

  private static void rowZeroWithoutStones() {
    due("none there now", Halls.of("p11;s1100;").raids(20, 5, 1), 20);
    due("no stones", new CornerstoneSought().raids(1, 5, 1), 1);
    int hits = 0;
    for (int p : draws(5, 60)) if (p == 11) hits++;
    due("11 is hit by some", hits > 0 ? 1 : 0, 1);
  }

  private static void seedsThatWrap() {
    int[] seeds = {0, 1, -1, 12345, Edges.LEAST, Edges.GREATEST, Edges.LEAST + 1, -12345, 1 << 30};
    for (int seed : seeds) {
      dueRaids(FULL, 20, seed);
      dueRaids(GROUND, 20, seed);
    }
    int below = 0;
    int z = 0;
    for (int i = 0; i < 60; i++) {
      z = z * 1103515245 + 12345;
      if (z < 0) below++;
    }
    due("z goes below 0 on the way", below > 0 ? 1 : 0, 1);
  }

  private static void felledRefused() {
    int[] noK = {Edges.LEAST, -1, 0, 13, Edges.GREATEST};
    EDGES.refused("k", TakingEdgesTest::ready, (x, k) -> x.felled(k), noK, -1);
    EDGES.refused("k of none", CornerstoneSought::new, (x, k) -> x.felled(k), noK, -1);
    due("12", column().felled(12), -4);
    due("1 of none", new CornerstoneSought().felled(1), -4);
  }

  private static void justKFelled() {
    int[] ofColumn = {1, 1, -4, -4};
    for (int k = 1; k <= 4; k++) due("column, " + k, column().felled(k), ofColumn[k - 1]);
    int[] ofFull = {1, 1, 2, 2, 3, 3, 4, 4, -4, -4, -4, -4};
    for (int k = 1; k <= 12; k++) due("full, " + k, Halls.of(FULL).felled(k), ofFull[k - 1]);
    due("none falls by itself", Halls.of(GROUND).felled(1), -4);
    due("one alone", Halls.of("s0000;").felled(1), -4);
    due("a beam on two", Halls.of("s0000;s0200;s0560;").felled(1), 2);
    // what fell can not be taken any more: 0 fells 4 and 8, and no two takings fell more
    due("each of what is there then", Halls.of(COLUMN + "s0100;").felled(3), -4);
  }

  // ---- pairs, rows, what it depends on

  private static void twins() {
    due("no stones", new CornerstoneSought().twins(), 0);
    due("one", Halls.of("s0000;").twins(), 0);
    due("two that none falls with", Halls.of("s0000;s0300;").twins(), 1);
    due("one on the other", Halls.of("s0000;s0400;").twins(), 1);
    due("a column", column().twins(), 2);
    due("two columns", Halls.of("s0000;s0400;s0300;s0700;").twins(), 3);
    due("all on the ground", Halls.of(GROUND).twins(), 6);
    due("a full hall", Halls.of(FULL).twins(), 6 + 4 + 4);
  }

  private static void highestRefused() {
    EDGES.refused("what", TakingEdgesTest::ready, (x, what) -> x.highest(what), Edges.NEITHER, -1);
    EDGES.refused("what of none", CornerstoneSought::new, (x, what) -> x.highest(what), Edges.NEITHER, -1);
    due("no stones", new CornerstoneSought().highest(0), -4);
    due("how many of none", new CornerstoneSought().highest(1), -4);
    due("a prop is no stone", Halls.of("p11;").highest(0), -4);
    due("nor counted", Halls.of("p11;").highest(1), -4);
  }

  private static void highestRows() {
    for (int p = 0; p < 12; p++) {
      CornerstoneSought x = new CornerstoneSought();
      x.props(p);
      Halls.lay(x, p, 0, 0);
      due("the row of " + p, x.highest(0), p / 4);
      due("one there", x.highest(1), 1);
    }
    due("row 2 of a full hall", Halls.of(FULL).highest(0), 2);
    due("four there", Halls.of(FULL).highest(1), 4);
    due("four in row 0", Halls.of(GROUND).highest(1), 4);
    due("one above four", Halls.of(GROUND + "s0700;").highest(1), 1);
  }

  private static void dependsRefused() {
    EDGES.refused("place", TakingEdgesTest::ready, (x, p) -> x.depends(p), Edges.NO_PLACES, -1);
    EDGES.refused("none at", TakingEdgesTest::ready, (x, p) -> x.depends(p), new int[] {1, 3, 11}, -3);
    due("place 0", column().depends(0), 0);
    due("place 11", Halls.of("s0300;s0700;s1100;").depends(11), 8 + 128);
  }

  private static void dependsOnOthersAlone() {
    due("on none", Halls.of("s0000;").depends(0), 0);
    due("on none by a prop", Halls.of(COLUMN + "p08;").depends(8), 0);
    due("on those below, not itself", column().depends(8), 1 + 16);
    due("on neither of two", Halls.of("s0000;s0200;s0560;").depends(5), 0);
    due("on both below an arch", Halls.of("s0000;s0200;s0520;").depends(5), 1 + 4);
    due("the ground, on what would come down on it", Halls.of("s0000;s0230;s0561;").depends(2), 1);
  }

  // ---- the image, what is told

  private static void fewestAndMostImaged() {
    due("none", new CornerstoneSought().image(), 0);
    due("a prop is no stone", Halls.of("p00;").image(), 0);
    due("a full hall", Halls.of(FULL).image(), 12);
    CornerstoneSought x = Halls.of(FULL);
    due("it is taken", x.image(), 12);
    x.takes(0);
    due("a later one in its place", x.image(), 9);
    due("is what comes", x.restore(), 9);
  }

  private static void restoreOfNone() {
    EDGES.refused("none of a new object", CornerstoneSought::new, x -> x.restore(), -3);
    EDGES.refused("none yet", TakingEdgesTest::ready, x -> x.restore(), -3);
    CornerstoneSought x = column();
    x.restore();
    x.image();
    due("then there is one", x.restore(), 3);
    due("and it stays", x.restore(), 3);
    x = new CornerstoneSought();
    x.image();
    Halls.lay(x, 0, 0, 0);
    due("one of no stones", x.restore(), 0);
    due("none then", x.count(0), 0);
  }

  private static void restoredAsItWas() {
    CornerstoneSought x = Halls.of("s0013;p04;s0452;p11;s1179;");
    String stones = stonesOf(x);
    x.image();
    Halls.told(x, "x00;x11;p04;p11;p00;s0029;s0468;s0111;");
    due("it is another", stonesOf(x).equals(stones) ? 1 : 0, 0);
    due("stones", x.restore(), 3);
    due("all as it was", stonesOf(x).equals(stones) ? 1 : 0, 1);
    x.props(4);
    due("what is done then", x.takes(0), 1);
    due("restored again", x.restore(), 3);
    due("all as it was again", stonesOf(x).equals(stones) ? 1 : 0, 1);
    x = Halls.of("p04;s0400;");
    x.image();
    Halls.told(x, "x04;s0430;");
    x.restore();
    due("plaster hangs on it again", Halls.lay(x, 5, 3, 0), 0);
    x = Halls.of("p04;s0430;");
    x.image();
    Halls.told(x, "x04;s0400;");
    x.restore();
    due("plaster does not hang on it again", Halls.lay(x, 5, 3, 0), 1);
    x = Halls.of("p04;s0400;");
    x.image();
    Halls.told(x, "p04;s0000;");
    x.restore();
    due("the prop is back", x.falls(4, 0) + x.count(2), 16);
    due("and goes", x.props(4), 1);
  }

  private static String stonesOf(CornerstoneSought x) {
    StringBuilder all = new StringBuilder();
    for (int what = 0; what <= 5; what++) all.append(x.count(what)).append(' ');
    for (int p = 0; p < 12; p++) {
      for (int what = 0; what <= 5; what++) all.append(x.stone(p, what)).append(',');
    }
    return all.toString();
  }

  private static void shelvesStay() {
    CornerstoneSought x = ready();
    x.image();
    x.keep(EMPTY, 1, 1, 4);
    x.keep(KIND, 0, 0, 0);
    x.put(ROW, 1, 77);
    x.row(LONG_ROW, 2, 1);
    x.restore();
    due("a kind where nothing was", x.cost(EMPTY), 6);
    due("nothing where a kind was", x.cost(KIND), -11);
    EDGES.dueElement(x, ROW, 1, "77");
    EDGES.dueElement(x, LONG_ROW, 0, "0");
    EDGES.dueElement(x, LONG_ROW, 1, "ISE");
  }

  private static void countRefused() {
    int[] others = {Edges.LEAST, -1, 6, Edges.GREATEST};
    EDGES.refused("what", TakingEdgesTest::ready, (x, what) -> x.count(what), others, -1);
    EDGES.refused("what of none", CornerstoneSought::new, (x, what) -> x.count(what), others, -1);
  }

  private static void countOfNoneAndAll() {
    for (int what = 0; what <= 5; what++) due("none, " + what, new CornerstoneSought().count(what), 0);
    CornerstoneSought x = Halls.of(FULL);
    int[] full = {12, 0xfff, 0, 36, 24, 4};
    for (int what = 0; what <= 5; what++) due("full, " + what, x.count(what), full[what]);
    for (int p = 0; p < 12; p++) x.props(p);
    due("props everywhere", x.count(2), 0xfff);
    due("no loads then", x.count(4), 0);
    for (int p = 0; p < 12; p++) x.takes(p);
    due("no stones any more", x.count(1), 0);
    due("the props stay", x.count(2), 0xfff);
  }

  private static void refusalsLeaveTheImage() {
    Edges.Call[] calls = {
      x -> x.hall(EMPTY), x -> x.hall(KIND), x -> x.hall(ROW), x -> x.stone(12, 0), x -> x.stone(3, 0),
      x -> x.lays(KIND, 12), x -> x.lays(EMPTY, 3), x -> x.lays(ROW, 3), x -> x.lays(KIND, 0),
      x -> x.takes(-1), x -> x.takes(3), x -> x.props(12), x -> x.falls(3, 0), x -> x.cut(3),
      x -> x.raids(0, 0, 0), x -> x.tins(LONG_ROW, 0), x -> x.judge(KIND), x -> x.more(3),
      x -> x.depends(3), x -> x.count(6), x -> x.keep(0, 1, 8, 0), x -> x.row(0, 0, -1),
      x -> x.put(ROW, 2, 0), x -> x.copy(ROW, 0, LONG_ROW, 4, 2), x -> x.toss(ROW), x -> x.cost(ROW)
    };
    for (int i = 0; i < calls.length; i++) {
      CornerstoneSought x = ready();
      x.image();
      x.takes(8);
      x.props(11);
      String ahead = Halls.whole(x);
      due("call " + i + " is refused", calls[i].on(x) < 0 ? 1 : 0, 1);
      due("call " + i + " changes nothing", Halls.whole(x).equals(ahead) ? 1 : 0, 1);
      due("call " + i + " leaves the image", x.restore(), 3);
      due("call " + i + " leaves its stones", x.count(1) + x.count(2), 273);
    }
  }
}
