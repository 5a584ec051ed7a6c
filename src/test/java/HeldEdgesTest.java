/**
 * What holds and what falls (promises 4 to 6): the boundary cases of the Terms, seen by what is laid.
 */
public final class HeldEdgesTest {
  private static final Edges EDGES = new Edges();
  private static final int STONE = 0;
  private static final int CORNER = 1;
  private static final int ARCH = 2;
  private static final int PLASTER = 3;
  private static final int KEY = 4;
  private static final int STEP = 5;
  private static final int BEAM = 6;
  private static final int MOUSE = 7;
  private static final int[] PLAIN = {STONE, CORNER, STEP};
  private static final int[] ARCHES = {ARCH, KEY};
  private static final int[] STUCK = {PLASTER, MOUSE};
  private static final int[] ALL = {STONE, CORNER, ARCH, PLASTER, KEY, STEP, BEAM, MOUSE};

  public static void main(String[] args) {
    EDGES.test(4, "HELD in ROW 0", HeldEdgesTest::heldOnTheGround);
    EDGES.test(4, "with a PROP", HeldEdgesTest::heldByProps);
    EDGES.test(4, "if the PLACE below it (4 less) holds one", HeldEdgesTest::heldByWhatIsBelow);
    EDGES.test(4, "if both PLACES beside that one (COLUMN 1 less, 1 more) hold one", HeldEdgesTest::archesNeedBoth);
    EDGES.test(4, "BEAM, if either of them does", HeldEdgesTest::beamsNeedEither);
    EDGES.test(4, "on the left one, COLUMN 1 less, if both do", HeldEdgesTest::beamsLieLeft);
    EDGES.test(4, "if a PLACE beside its own holds one that is neither", HeldEdgesTest::plasterNeedsOneBeside);
    EDGES.test(4, "it lies on none", HeldEdgesTest::stuckLoadsNone);
    EDGES.test(4, "others not", HeldEdgesTest::othersNeedOneBelow);
    EDGES.test(4, "COLUMN modulo 4", HeldEdgesTest::rowsDoNotGoRound);
    EDGES.test(4, "PLACES 0 .. 11, four in a row: ROW by 4, cut (0 on the ground), COLUMN modulo 4",
        HeldEdgesTest::whatHoldsEachPlace);
    EDGES.test(4, "PLASTER (MOUSE, too), if a PLACE beside its own holds one that is neither",
        HeldEdgesTest::whatLayThereBeforeIsNoMatter);
    EDGES.test(4, "all with LOAD above what they BEAR", HeldEdgesTest::bearsJustAsMuch);
    EDGES.test(4, "FALL at once", HeldEdgesTest::allFallAtOnce);
    EDGES.test(4, "again and again till none does", HeldEdgesTest::againTillNoneFalls);
    EDGES.test(5, "After each act on it the hall SETTLES.", HeldEdgesTest::takingsSettle);
    EDGES.test(6, "After each act on it the hall SETTLES.", HeldEdgesTest::propsSettle);
    EDGES.end(4, 6);
  }

  private static void due(String call, long got, long want) {
    EDGES.due(call, got, want);
  }

  /** How many fall when one is laid in a hall by a text. */
  private static int laid(String text, int p, int kind) {
    return Halls.lay(Halls.of(text), p, kind, 0);
  }

  private static void stands(String text, int p, int... kinds) {
    for (int k : kinds) due("kind " + k + " at " + p + " by " + text, laid(text, p, k), 0);
  }

  private static void falls(String text, int p, int... kinds) {
    for (int k : kinds) due("kind " + k + " at " + p + " by " + text, laid(text, p, k), 1);
  }

  private static void heldOnTheGround() {
    for (int p = 0; p < 4; p++) {
      for (int k : ALL) due("kind " + k + " at " + p, Halls.lay(new CornerstoneSought(), p, k, 9), 0);
    }
    for (int p = 4; p < 12; p++) {
      for (int k : ALL) due("kind " + k + " at " + p, Halls.lay(new CornerstoneSought(), p, k, 9), 1);
    }
  }

  private static String twoDigits(int p) {
    return "" + (char) ('0' + p / 10) + (char) ('0' + p % 10);
  }

  private static void heldByProps() {
    for (int p = 0; p < 12; p++) stands("p" + twoDigits(p) + ";", p, ALL);
    falls("p05;", 4, ALL);
    falls("p05;", 6, ALL);
    falls("p04;", 8, ALL);
    falls("p08;", 4, ALL);
  }

  private static void heldByWhatIsBelow() {
    for (int p = 0; p < 4; p++) {
      String below = "s0" + p + "10;";
      stands(below, p + 4, ALL);
      falls(below, p + 8, ALL);
      stands(below + "s0" + (p + 4) + "10;", p + 8, ALL);
    }
    falls("p08;s0800;", 4, ALL);
  }

  private static void archesNeedBoth() {
    stands("s0000;s0200;", 5, ARCHES);
    falls("s0000;", 5, ARCHES);
    falls("s0200;", 5, ARCHES);
    falls("s0000;s0300;", 5, ARCHES);
    stands("s0100;s0300;", 6, ARCHES);
    falls("s0100;", 6, ARCHES);
    falls("s0300;", 6, ARCHES);
    stands("s0000;s0400;s0200;s0600;", 9, ARCHES);
    falls("s0000;s0400;s0200;", 9, ARCHES);
    falls("s0000;s0200;", 9, ARCHES);
    due("one that is taken from below an arch", Halls.of("s0000;s0200;s0520;").takes(2), 1);
  }

  private static void beamsNeedEither() {
    stands("s0000;s0200;", 5, BEAM);
    stands("s0000;", 5, BEAM);
    stands("s0200;", 5, BEAM);
    falls("s0300;", 5, BEAM);
    stands("s0100;", 4, BEAM);
    stands("s0200;", 7, BEAM);
    stands("s0300;", 6, BEAM);
    falls("s0000;", 6, BEAM);
    stands("s0100;s0500;", 8, BEAM);
    stands("s0200;s0600;", 11, BEAM);
    falls("s0100;", 8, BEAM);
  }

  private static void beamsLieLeft() {
    CornerstoneSought x = Halls.of("s0000;s0200;s0562;");
    due("the left one", x.stone(0, 4), 6);
    due("the right one", x.stone(2, 4), 0);
    x.takes(0);
    due("the right one behind the left one", x.stone(2, 4), 6);
    x = Halls.of("s0100;s0462;");
    due("in column 0", x.stone(1, 4), 6);
    x = Halls.of("s0200;s0762;");
    due("in column 3", x.stone(2, 4), 6);
    x = Halls.of("s0000;s0100;s0200;s0562;");
    due("the one below", 100 * x.stone(0, 4) + 10 * x.stone(1, 4) + x.stone(2, 4), 60);
  }

  private static void plasterNeedsOneBeside() {
    String left = "p04;s040";
    String right = "p06;s060";
    for (int k = 0; k < 8; k++) {
      int want = k == PLASTER || k == MOUSE ? 1 : 0;
      for (int stuck : STUCK) {
        String pair = stuck + " beside " + k;
        due(pair, laid("p04;s04" + k + "0;", 5, stuck), want);
        due(pair + " to the right", laid("p06;s06" + k + "0;", 5, stuck), want);
        due(pair + " in row 2", laid("p10;s10" + k + "0;", 11, stuck), want);
      }
    }
    stands(left + "0;p06;s0630;", 5, STUCK);
    stands("p04;s0470;" + right + "0;", 5, STUCK);
    falls("p04;s0430;p06;s0670;", 5, STUCK);
    falls("p07;s0700;", 5, STUCK);
    falls("s0000;s0200;", 5, STUCK);
    falls("p08;p09;p10;s0800;s0900;s1000;", 5, STUCK);
    due("one plaster does not hold the next", laid(left + "0;s0530;", 6, PLASTER), 1);
    due("what it hangs on is taken", Halls.of("s0000;s0400;s0530;").takes(4), 1);
  }

  private static void stuckLoadsNone() {
    CornerstoneSought x = Halls.of("p04;s0400;s0530;s0900;");
    due("beside it", x.stone(4, 4), 0);
    due("on it", x.stone(5, 4), 2);
    due("all loads", x.count(4), 2);
  }

  private static void othersNeedOneBelow() {
    falls("s0000;s0200;", 5, PLAIN);
    falls("p04;s0400;p06;s0600;", 5, PLAIN);
    falls("s0000;s0200;p04;s0400;p06;s0600;", 5, PLAIN);
    falls("p04;s0400;p06;s0600;", 5, ARCHES);
    falls("p04;s0400;p06;s0600;", 5, BEAM);
  }

  private static void rowsDoNotGoRound() {
    String upTo8 = "p08;s0800;";
    falls("s0300;s0100;s0500;", 8, ARCHES);
    falls("s0300;", 8, BEAM);
    falls("s0200;p04;s0400;", 7, ARCHES);
    falls("p04;s0400;", 7, BEAM);
    falls("s0200;s0600;" + upTo8, 11, ARCHES);
    falls(upTo8, 11, BEAM);
    falls("s0100;", 4, ARCHES);
    falls("s0200;", 7, ARCHES);
    falls("s0300;", 4, STUCK);
    falls(upTo8, 7, STUCK);
    falls("s0300;s0700;", 8, STUCK);
    falls("s0000;", 11, ALL);
    CornerstoneSought x = Halls.of("s0300;s0100;s0500;s0861;");
    due("a beam in column 0 lies on the right one", x.stone(5, 4), 4);
    due("not on the end of the row below", x.stone(3, 4), 0);
  }

  /** One laid at a place without a prop, with stones by props at two others (or twice at one). */
  private static int laidBy(int q, int r, int p, int kind) {
    CornerstoneSought x = new CornerstoneSought();
    x.props(q);
    Halls.lay(x, q, STONE, 0);
    if (q != r) {
      x.props(r);
      Halls.lay(x, r, STONE, 0);
    }
    return Halls.lay(x, p, kind, 0);
  }

  private static void whatHoldsEachPlace() {
    for (int p = 4; p < 12; p++) {
      int column = p % 4;
      for (int q = 0; q < 12; q++) {
        if (q == p) continue;
        int below = p / 4 - q / 4;
        int beside = Math.abs(column - q % 4);
        boolean under = below == 1 && beside == 0;
        boolean next = below == 0 && beside == 1;
        boolean slant = below == 1 && beside == 1;
        due("plaster at " + p + " by " + q, laidBy(q, q, p, PLASTER), under || next ? 0 : 1);
        due("a mouse at " + p + " by " + q, laidBy(q, q, p, MOUSE), under || next ? 0 : 1);
        due("a beam at " + p + " by " + q, laidBy(q, q, p, BEAM), under || slant ? 0 : 1);
        due("a stone at " + p + " by " + q, laidBy(q, q, p, STONE), under ? 0 : 1);
        for (int r = q + 1; r < 12; r++) {
          if (r == p) continue;
          boolean both = slant && q % 4 == column - 1 && r == q + 2 && r % 4 == column + 1;
          boolean held = under || r == p - 4 || both;
          due("an arch at " + p + " by " + q + " and " + r, laidBy(q, r, p, ARCH), held ? 0 : 1);
        }
      }
    }
  }

  private static void whatLayThereBeforeIsNoMatter() {
    falls("p04;s0400;x04;s0430;", 5, STUCK);
    falls("p04;s0400;x04;s0470;", 5, STUCK);
    falls("p04;s0400;x04;", 5, STUCK);
    stands("p04;s0430;x04;s0400;", 5, STUCK);
    falls("p07;s0700;x07;s0730;", 6, STUCK);
  }

  /** Lays a load on place 1, the heaviest part first; the last may be too much. */
  private static CornerstoneSought laden(int kind, int figure, int load) {
    CornerstoneSought x = new CornerstoneSought();
    Halls.lay(x, 1, kind, figure);
    int rest = load;
    if (rest > 20) {
      Halls.lay(x, 4, BEAM, 9);
      rest -= 20;
    }
    if (rest > 11) {
      // a key weighs 1 and twice its figure, a mouse nothing, plaster 1, a stone 2
      int ofKey = Math.min(9, (rest - 1) / 2);
      int[] tops = {MOUSE, PLASTER, STONE};
      Halls.lay(x, 5, KEY, ofKey);
      Halls.lay(x, 9, tops[rest - 1 - 2 * ofKey], 0);
    } else if (rest > 1) {
      Halls.lay(x, 5, STONE, rest - 2);
    } else {
      Halls.lay(x, 5, rest == 1 ? PLASTER : MOUSE, 0);
    }
    return x;
  }

  private static void bearsJustAsMuch() {
    int[][] bears = {{20, 20}, {40, 40}, {12, 12}, {3, 3}, {12, 21}, {40, 31}, {6, 6}, {0, 0}};
    for (int k : ALL) {
      for (int f = 0; f <= 1; f++) {
        int most = bears[k][f];
        CornerstoneSought x = laden(k, 9 * f, most);
        String one = "kind " + k + " figure " + 9 * f + " with " + most;
        due(one, x.stone(1, 4), most);
        due(one + " and 1", laden(k, 9 * f, most + 1).stone(1, 4), -3);
        due(one + " bears no more", x.more(1), 0);
      }
    }
  }

  private static void allFallAtOnce() {
    // 4 can not bear 8, and 0 can not bear both: 0 is not spared by what falls with it
    due("two that are overloaded", Halls.lay(Halls.of("s0030;s0430;"), 8, STONE, 2), 3);
    CornerstoneSought x = Halls.of("s0030;s0430;p08;s0802;");
    due("by the prop's going", x.props(8), 3);
    x = Halls.of("s0000;s0230;s0561;s0400;");
    due("one overloaded, one not held: steps", x.falls(0, 1), 2);
    due("which", x.falls(0, 2), 4 + 16 + 32);
  }

  private static void againTillNoneFalls() {
    CornerstoneSought x = Halls.of("s0000;s0230;s0560;s0910;p10;s1030;");
    due("steps", x.falls(0, 1), 3);
    due("one on the other", x.takes(0), 3);
    due("what has a prop stays", x.count(1), 1 << 10);
    due("a column", Halls.of("s0000;s0400;s0800;").takes(0), 2);
    x = Halls.of("s0000;s0400;s0800;s0930;p11;s1100;s1030;");
    due("plaster behind what it hung on", x.falls(0, 1), 3);
    due("how many", x.takes(0), 3);
  }

  private static void takingsSettle() {
    CornerstoneSought x = Halls.of("s0000;s0200;s0561;");
    due("a beam shifts", x.takes(0), 0);
    due("onto the other", x.stone(2, 4), 4);
    due("and falls with it", x.takes(2), 1);
    due("none", x.count(1), 0);
  }

  private static void propsSettle() {
    CornerstoneSought x = Halls.of("s0030;p04;s0402;");
    due("it is too heavy without", x.props(4), 2);
    due("none", x.count(1), 0);
    x = Halls.of("s0030;p04;s0401;");
    due("it is not too heavy", x.props(4), 0);
    due("both", x.count(1), 17);
    x = Halls.of("p05;s0500;s0900;");
    due("nothing below", x.props(5), 2);
  }
}
