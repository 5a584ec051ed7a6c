/** Promises 7 to 16: the boundary cases of what would fall. */
public final class FallEdgesTest {
  private static final Edges EDGES = new Edges();
  private static final String COLUMN = "s0000;s0400;s0800;";
  private static final String BEAM_ON_TWO = "s0000;s0200;s0560;";
  private static final String FULL =
      "s0010;s0110;s0210;s0310;s0400;s0500;s0600;s0700;s0800;s0900;s1000;s1100;";

  public static void main(String[] args) {
    EDGES.test(7, "which (2, bits). -1, -3.", FallEdgesTest::fallsRefused);
    EDGES.test(7, "how many FALL then (it aside)", FallEdgesTest::takenIsNotCounted);
    EDGES.test(7, "by how many STEPS", FallEdgesTest::stepsFromNone);
    EDGES.test(7, "In mind, one STONE taken out", FallEdgesTest::fallsInMind);
    EDGES.test(7, "what falls then, step by step", FallEdgesTest::askedAnewBehindEachAct);

    EDGES.test(8, "CORNERSTONES (what 0), SAFE (1), bits. -1.", FallEdgesTest::cornersRefused);
    EDGES.test(8, "lets all others FALL (one other at least)", FallEdgesTest::cornerNeedsOneOther);
    EDGES.test(8, "SAFE: those with which none FALLS.", FallEdgesTest::safeOnes);

    EDGES.test(9, "of several the least; -4 no STONES.", FallEdgesTest::worstOfNone);
    EDGES.test(9, "WORST: that with which most FALL, of several the least", FallEdgesTest::worstOfSeveral);

    EDGES.test(10, "TOGETHER: how many (what 0), the first (1; -4). -1.", FallEdgesTest::togetherRefused);
    EDGES.test(10, "let k (1 .. 12) or more others", FallEdgesTest::togetherLetsJustK);
    EDGES.test(10, "how many; the first (100 the lesser and the other); -4.", FallEdgesTest::firstTogether);
    EDGES.test(10, "pairs of which neither alone lets any other FALL", FallEdgesTest::neitherAlone);

    EDGES.test(11, "CUT (bits); -4. -1, -3.", FallEdgesTest::cutRefused);
    EDGES.test(11, "-4 it never does", FallEdgesTest::neverCut);
    EDGES.test(11, "the fewest others (bits, of several the least)", FallEdgesTest::leastCut);

    EDGES.test(12, "TO THE GROUND (bits).", FallEdgesTest::groundOfNone);
    EDGES.test(12, "leave none above ROW 0", FallEdgesTest::groundOfRowZero);
    EDGES.test(12, "TO THE GROUND: the fewest STONES (bits likewise)", FallEdgesTest::leastToGround);

    EDGES.test(13, "LONGEST: how many (what 0), the first (1; -4). -1.", FallEdgesTest::longestRefused);
    EDGES.test(13, "the first of the first such by PLACES; -4.", FallEdgesTest::longestOfSeveral);

    EDGES.test(14, "GAME: 1, 0 (what 0), the first PLACE (1; -4). -1.", FallEdgesTest::gameRefused);
    EDGES.test(14, "who can not loses", FallEdgesTest::whoCanNotLoses);
    EDGES.test(14, "the first PLACE by which he does; -4.", FallEdgesTest::firstWinningPlace);

    EDGES.test(15, "part 0 above, 1 below the line. Refused as told: -1.", FallEdgesTest::bombsRefused);
    EDGES.test(15, "with odds 1 in t (2 .. 10)", FallEdgesTest::leastAndGreatestOdds);
    EDGES.test(15, "how likely k (0 .. 12) or more are left behind", FallEdgesTest::justKAreLeft);
    EDGES.test(15, "a fraction in least terms", FallEdgesTest::leastTerms);

    EDGES.test(16, "MOST LOAD (what 0; -4), where (1; -4). -1.", FallEdgesTest::mostLoadRefused);
    EDGES.test(16, "the greatest LOAD; where, of several the least; -4.", FallEdgesTest::mostLoadOfSeveral);
    EDGES.end(7, 16);
  }

  private static void due(String call, long got, long want) {
    EDGES.due(call, got, want);
  }

  private static CornerstoneSought column() {
    return Halls.of(COLUMN);
  }

  // ---- one taken out

  private static void fallsRefused() {
    int[] noWhats = {Edges.LEAST, -1, 3, Edges.GREATEST};
    for (int what = 0; what <= 2; what++) {
      int asked = what;
      EDGES.refused("place", FallEdgesTest::column, (x, p) -> x.falls(p, asked), Edges.NO_PLACES, -1);
      EDGES.refused("none at", FallEdgesTest::column, (x, p) -> x.falls(p, asked), new int[] {1, 3, 11}, -3);
    }
    EDGES.refused("what", FallEdgesTest::column, (x, what) -> x.falls(0, what), noWhats, -1);
    EDGES.refused("what, none there", FallEdgesTest::column, (x, what) -> x.falls(1, what), noWhats, -1);
    CornerstoneSought x = Halls.of("p11;s1100;" + COLUMN);
    due("place 0", x.falls(0, 0), 2);
    due("place 11", x.falls(11, 0), 0);
  }

  private static void takenIsNotCounted() {
    due("one alone", Halls.of("s0000;").falls(0, 0), 0);
    due("its bit", Halls.of("s0000;").falls(0, 2), 0);
    due("the others", column().falls(0, 0), 2);
    due("their bits", column().falls(0, 2), 16 + 256);
  }

  private static void stepsFromNone() {
    due("none falls", column().falls(8, 1), 0);
    due("one falls", column().falls(4, 1), 1);
    due("one behind the other", column().falls(0, 1), 2);
    CornerstoneSought x = Halls.of("s0000;s0230;s0561;s0400;");
    due("two of three at once", x.falls(0, 1), 2);
    x = Halls.of("s0000;s0230;s0560;s0910;");
    due("three behind one another", x.falls(0, 1), 3);
  }

  private static void fallsInMind() {
    CornerstoneSought x = column();
    String ahead = Halls.whole(x);
    for (int what = 0; what <= 2; what++) x.falls(0, what);
    due("all as it was", Halls.whole(x).equals(ahead) ? 1 : 0, 1);
    due("loads, too", thoughtOf().stone(0, 4), 4);
    due("what more it would bear", thoughtOf().more(0), 16);
    due("where most load is", thoughtOf().mostLoad(1), 0);
    due("the most load", thoughtOf().mostLoad(0), 4);
    due("all loads", thoughtOf().count(4), 6);
  }

  /** A column whose first question was of one taken out. */
  private static CornerstoneSought thoughtOf() {
    CornerstoneSought x = column();
    x.falls(0, 0);
    return x;
  }

  private static void askedAnewBehindEachAct() {
    CornerstoneSought x = column();
    due("a column", x.falls(0, 0), 2);
    x.props(4);
    due("with a prop", x.falls(0, 0), 0);
    x.image();
    x.props(4);
    due("without it", x.falls(0, 0), 2);
    x.restore();
    due("with it again", x.falls(0, 0), 0);
    due("a prop by a text", Halls.told(x, "p04;"), 1);
    due("without it by a text", x.falls(0, 0), 2);
    x.takes(8);
    due("without the top one", x.falls(0, 0), 1);
    x = Halls.of("s0000;s0200;s0560;");
    due("a beam that shifts", x.falls(0, 0), 0);
    Halls.told(x, "x02;s0230;x05;s0561;");
    due("a heavier one onto plaster", x.falls(0, 0), 2);
    x = Halls.of("s0000;s0200;s0560;");
    due("none by the beam", x.falls(0, 0), 0);
    x.takes(5);
    Halls.lay(x, 5, 2, 0);
    due("an arch in its place", x.falls(0, 0), 1);
  }

  private static void cornersRefused() {
    EDGES.refused("what", FallEdgesTest::column, (x, what) -> x.corners(what), Edges.NEITHER, -1);
    due("cornerstones of none", new CornerstoneSought().corners(0), 0);
    due("safe ones of none", new CornerstoneSought().corners(1), 0);
  }

  private static void cornerNeedsOneOther() {
    due("no other", Halls.of("s0000;").corners(0), 0);
    due("one other", Halls.of("s0000;s0400;").corners(0), 1);
    due("two others", column().corners(0), 1);
    due("one stays", Halls.of(COLUMN + "s0100;").corners(0), 0);
    due("one other beside it", Halls.of("p04;s0400;s0530;").corners(0), 16);
    due("all but one fall", Halls.of(COLUMN + "p08;").corners(0), 0);
  }

  private static void safeOnes() {
    due("one alone", Halls.of("s0000;").corners(1), 1);
    due("the top one", column().corners(1), 256);
    due("one would fall", Halls.of("s0000;s0400;").corners(1), 16);
    due("all on the ground", Halls.of("s0000;s0100;s0200;s0300;").corners(1), 15);
    due("the top row of a full hall", Halls.of(FULL).corners(1), 0xf00);
  }

  private static void worstOfNone() {
    due("no stones", new CornerstoneSought().worst(), -4);
    due("a prop is no stone", Halls.of("p00;").worst(), -4);
    due("one", Halls.of("s0300;").worst(), 3);
    due("one at 11", Halls.of("p11;s1100;").worst(), 11);
  }

  private static void worstOfSeveral() {
    due("place 0", column().worst(), 0);
    due("none falls with any", Halls.of("s0200;s0300;").worst(), 2);
    due("as many with either", Halls.of("s0200;s0600;s0300;s0700;").worst(), 2);
    due("more with the latter", Halls.of("s0200;s0300;s0700;").worst(), 3);
    due("more yet with the latter", Halls.of("s0200;s0600;s0300;s0700;s1100;").worst(), 3);
  }

  private static void togetherRefused() {
    int[] noK = {Edges.LEAST, -1, 0, 13, Edges.GREATEST};
    for (int what = 0; what <= 1; what++) {
      int asked = what;
      EDGES.refused("k", FallEdgesTest::column, (x, k) -> x.together(k, asked), noK, -1);
    }
    EDGES.refused("what", FallEdgesTest::column, (x, what) -> x.together(1, what), Edges.NEITHER, -1);
    EDGES.refused("what and k 12", FallEdgesTest::column, (x, what) -> x.together(12, what), Edges.NEITHER, -1);
    due("k 1", Halls.of(BEAM_ON_TWO).together(1, 0), 1);
    due("k 12", Halls.of(BEAM_ON_TWO).together(12, 0), 0);
    due("k 12, the first", Halls.of(BEAM_ON_TWO).together(12, 1), -4);
  }

  private static void togetherLetsJustK() {
    CornerstoneSought x = Halls.of("s0100;s0300;s0660;s1030;");
    int[] pairs = {1, 1, 0, 0};
    for (int k = 1; k <= 4; k++) {
      due("k " + k, x.together(k, 0), pairs[k - 1]);
      due("the first of k " + k, x.together(k, 1), k <= 2 ? 103 : -4);
    }
  }

  private static void firstTogether() {
    CornerstoneSought x = Halls.of("p05;s0000;s0430;s0500;s0100;s0300;s0660;");
    due("two pairs", x.together(1, 0), 2);
    due("that with the lesser one first", x.together(1, 1), 5);
    x.takes(4);
    due("the other", x.together(1, 1), 103);
    x = Halls.of("p09;p11;s0900;s1100;s1030;");
    due("of two digits each", x.together(1, 1), 911);
    due("one beside the other", Halls.of("s0000;s0100;s0560;").together(1, 1), 1);
    due("one of them below", Halls.of("s0100;s0200;s0560;").together(1, 1), 102);
    due("one such pair", Halls.of("s0100;s0200;s0560;").together(1, 0), 1);
    due("none there", new CornerstoneSought().together(1, 0), 0);
    due("no first there", new CornerstoneSought().together(1, 1), -4);
    due("one there", Halls.of("s0000;").together(1, 1), -4);
  }

  private static void neitherAlone() {
    due("one of a column", Halls.of(COLUMN + "s0100;").together(1, 0), 0);
    due("a beam, and one more on its left", Halls.of(BEAM_ON_TWO + "s0400;").together(1, 0), 0);
    due("a beam on one", Halls.of("s0000;s0560;s0300;").together(1, 0), 0);
    due("two on the ground", Halls.of("s0000;s0100;").together(1, 0), 0);
  }

  private static void cutRefused() {
    EDGES.refused("place", FallEdgesTest::column, (x, p) -> x.cut(p), Edges.NO_PLACES, -1);
    EDGES.refused("none at", FallEdgesTest::column, (x, p) -> x.cut(p), new int[] {1, 3, 11}, -3);
    due("place 0", column().cut(0), -4);
    due("place 11", Halls.of("s0300;s0700;s1100;").cut(11), 8);
  }

  private static void neverCut() {
    due("on the ground alone", Halls.of("s0000;").cut(0), -4);
    due("on the ground of a full hall", Halls.of(FULL).cut(3), -4);
    due("by a prop", Halls.of(COLUMN + "p08;").cut(8), -4);
    due("by a prop alone", Halls.of("p11;s1100;").cut(11), -4);
    due("what lies on the one with a prop", Halls.of(COLUMN + "p04;").cut(8), 16);
  }

  private static void leastCut() {
    due("the lowest of a column", column().cut(8), 1);
    due("one not by itself", column().cut(4), 1);
    due("two", Halls.of(BEAM_ON_TWO).cut(5), 1 + 4);
    due("one of a greater number", Halls.of("s0100;s0300;s0660;s1000;s1130;").cut(11), 64);
    due("the ground by what comes down on it", Halls.of("s0000;s0230;s0561;").cut(2), 1);
    due("three", Halls.of("s0100;s0530;p04;s0400;p06;s0600;").cut(5), 2 + 16 + 64);
  }

  private static void groundOfNone() {
    due("no stones", new CornerstoneSought().toGround(), 0);
    due("a prop is no stone", Halls.of("p11;").toGround(), 0);
  }

  private static void groundOfRowZero() {
    due("all in row 0", Halls.of("s0000;s0100;s0200;s0300;").toGround(), 0);
    due("one in row 1", Halls.of("s0000;s0400;").toGround(), 1);
    due("one in row 1 by a prop", Halls.of("p04;s0400;").toGround(), 16);
    due("one at 11 by a prop", Halls.of("p11;s1100;").toGround(), 2048);
    due("two", Halls.of("s0030;s0401;p08;s0800;").toGround(), 1 + 256);
  }

  private static void leastToGround() {
    due("the lowest of a column", column().toGround(), 1);
    due("one rather than two below it", Halls.of(BEAM_ON_TWO).toGround(), 32);
    due("a full hall", Halls.of(FULL).toGround(), 15);
    StringBuilder props = new StringBuilder();
    for (int p = 4; p < 12; p++) props.append('p').append(p / 10).append(p % 10).append(';');
    CornerstoneSought x = Halls.of(FULL);
    Halls.told(x, props.toString());
    due("a full hall of props", x.toGround(), 0xff0);
  }

  private static void longestRefused() {
    EDGES.refused("what", FallEdgesTest::column, (x, what) -> x.longest(what), Edges.NEITHER, -1);
    due("no stones", new CornerstoneSought().longest(0), 0);
    due("no first", new CornerstoneSought().longest(1), -4);
    due("one", Halls.of("s0300;").longest(0), 1);
    due("the first of one", Halls.of("s0300;").longest(1), 3);
    due("a full hall", Halls.of(FULL).longest(0), 12);
    due("the first of a full hall", Halls.of(FULL).longest(1), 8);
  }

  private static void longestOfSeveral() {
    due("place 0", Halls.of("s0000;s0100;").longest(1), 0);
    due("any first", Halls.of("s0100;s0200;s0300;").longest(1), 1);
    due("the top one", column().longest(1), 8);
    due("the top one, or one beside", Halls.of(COLUMN + "s0300;").longest(1), 3);
    due("one that holds none up", Halls.of("s0000;s0400;s0200;s0561;").longest(1), 2);
  }

  private static void gameRefused() {
    EDGES.refused("what", FallEdgesTest::column, (x, what) -> x.game(what), Edges.NEITHER, -1);
    due("no stones", new CornerstoneSought().game(0), 0);
    due("no place", new CornerstoneSought().game(1), -4);
  }

  private static void whoCanNotLoses() {
    due("one", Halls.of("s0000;").game(0), 1);
    due("two", Halls.of("s0000;s0400;").game(0), 0);
    due("three", column().game(0), 1);
    due("a full hall", Halls.of(FULL).game(0), 0);
    due("none of a full hall", Halls.of(FULL).game(1), -4);
  }

  private static void firstWinningPlace() {
    due("any", Halls.of("s0100;s0200;s0300;").game(1), 1);
    due("the top one", column().game(1), 8);
    due("the only one", Halls.of("p11;s1100;").game(1), 11);
    due("none", Halls.of("s0000;s0400;").game(1), -4);
  }

  private static void bombsRefused() {
    int[] noOdds = {Edges.LEAST, -1, 0, 1, 11, Edges.GREATEST};
    int[] noK = {Edges.LEAST, -1, 13, Edges.GREATEST};
    for (int part = 0; part <= 1; part++) {
      int asked = part;
      EDGES.refused("t", FallEdgesTest::column, (x, t) -> x.bombs(t, 1, asked), noOdds, 1000000001L);
      EDGES.refused("k", FallEdgesTest::column, (x, k) -> x.bombs(2, k, asked), noK, 1000000001L);
    }
    EDGES.refused("part", FallEdgesTest::column, (x, part) -> x.bombs(2, 1, part), Edges.NEITHER, 1000000001L);
  }

  private static void dueBombs(CornerstoneSought x, int t, int k, long above, long below) {
    due("bombs " + t + " " + k + " above", x.bombs(t, k, 0), above);
    due("bombs " + t + " " + k + " below", x.bombs(t, k, 1), below);
  }

  private static void leastAndGreatestOdds() {
    for (int t = 2; t <= 10; t++) dueBombs(Halls.of("s0000;"), t, 1, t - 1, t);
    dueBombs(Halls.of(FULL), 10, 12, 282429536481L, 1000000000000L);
    dueBombs(Halls.of(FULL), 2, 12, 1, 4096);
  }

  private static void justKAreLeft() {
    for (int t = 2; t <= 10; t += 8) {
      dueBombs(new CornerstoneSought(), t, 0, 1, 1);
      dueBombs(new CornerstoneSought(), t, 1, 0, 1);
      dueBombs(new CornerstoneSought(), t, 12, 0, 1);
      dueBombs(Halls.of(FULL), t, 0, 1, 1);
      dueBombs(column(), t, 0, 1, 1);
      dueBombs(column(), t, 4, 0, 1);
    }
    CornerstoneSought x = Halls.of("s0000;s0100;");
    dueBombs(x, 10, 1, 99, 100);
    dueBombs(x, 10, 2, 81, 100);
    dueBombs(x, 10, 3, 0, 1);
    dueBombs(column(), 2, 3, 1, 8);
  }

  private static void leastTerms() {
    dueBombs(column(), 2, 1, 1, 2);
    dueBombs(column(), 10, 1, 9, 10);
    dueBombs(column(), 10, 2, 81, 100);
    dueBombs(Halls.of("s0000;s0100;"), 4, 1, 15, 16);
    // of 6 to 3: 125 with all, 75 with two of three
    dueBombs(Halls.of("s0000;s0100;s0200;"), 6, 2, 25, 27);
    dueBombs(Halls.of("s0000;s0100;s0200;"), 9, 0, 1, 1);
  }

  private static void mostLoadRefused() {
    EDGES.refused("what", FallEdgesTest::column, (x, what) -> x.mostLoad(what), Edges.NEITHER, -1);
    due("no stones", new CornerstoneSought().mostLoad(0), -4);
    due("nowhere", new CornerstoneSought().mostLoad(1), -4);
    due("a prop alone", Halls.of("p00;").mostLoad(1), -4);
  }

  private static void mostLoadOfSeveral() {
    due("no load", Halls.of("s0200;s0300;").mostLoad(0), 0);
    due("of no loads the least place", Halls.of("s0200;s0300;").mostLoad(1), 2);
    due("no load at 11", Halls.of("p11;s1100;").mostLoad(1), 11);
    due("as much on two", Halls.of("s0200;s0600;s0300;s0700;").mostLoad(1), 2);
    due("more on the latter", Halls.of("s0200;s0600;s0300;s0701;").mostLoad(1), 3);
    due("above a prop", Halls.of("s0000;s0400;p04;s0809;").mostLoad(1), 4);
    due("the most that can be", Halls.of("s0110;s0469;s0549;s0930;").mostLoad(0), 40);
  }
}
