/** Promises 7 to 16: what would fall. */
public final class FallTest {
  private static final Checks CHECKS = new Checks();
  private static final String COLUMN = "s0000;s0400;s0800;";
  private static final String BEAM_ON_TWO = "s0000;s0200;s0560;";

  public static void main(String[] args) {
    falls();
    corners();
    worst();
    together();
    cut();
    toGround();
    longest();
    game();
    bombs();
    mostLoad();
    CHECKS.end();
  }

  private static void due(String call, long got, long want) {
    CHECKS.due(call, got, want);
  }

  private static void falls() {
    CornerstoneSought x = Halls.of(COLUMN);
    due("falls 0 0", x.falls(0, 0), 2);
    due("falls 0 1", x.falls(0, 1), 2);
    due("falls 0 2", x.falls(0, 2), 16 + 256);
    due("falls 4 0", x.falls(4, 0), 1);
    due("falls 4 1", x.falls(4, 1), 1);
    due("falls 8 0", x.falls(8, 0), 0);
    due("falls 8 1", x.falls(8, 1), 0);
    due("falls 8 2", x.falls(8, 2), 0);
    due("all are there yet", x.count(1), 273);
    due("what -1", x.falls(0, -1), -1);
    due("what 3", x.falls(0, 3), -1);
    due("what 3 where none is", x.falls(1, 3), -1);
    due("place -1", x.falls(-1, 0), -1);
    due("place 12", x.falls(12, 0), -1);
    due("none there", x.falls(1, 0), -3);
  }

  private static void corners() {
    CornerstoneSought x = Halls.of(COLUMN);
    due("cornerstones", x.corners(0), 1);
    due("safe", x.corners(1), 256);
    Halls.told(x, "s0100;");
    due("one is left, so none", x.corners(0), 0);
    due("safe, two", x.corners(1), 256 + 2);
    x = Halls.of("s0000;");
    due("no others", x.corners(0), 0);
    due("safe alone", x.corners(1), 1);
    due("what -1", x.corners(-1), -1);
    due("what 2", x.corners(2), -1);
    due("none", new CornerstoneSought().corners(0), 0);
    x = Halls.of("p04;s0400;s0530;p00;");
    due("plaster hangs on it", x.corners(0), 16);
  }

  private static void worst() {
    due("no stones", new CornerstoneSought().worst(), -4);
    due("column", Halls.of(COLUMN).worst(), 0);
    due("the least of several", Halls.of("s0300;s0200;").worst(), 2);
    due("a later one", Halls.of("s0000;s0100;s0500;").worst(), 1);
  }

  private static void together() {
    CornerstoneSought x = Halls.of(BEAM_ON_TWO);
    due("one pair", x.together(1, 0), 1);
    due("the pair", x.together(1, 1), 2);
    due("none lets two fall", x.together(2, 0), 0);
    due("no first", x.together(2, 1), -4);
    due("12", x.together(12, 0), 0);
    due("k 0", x.together(0, 0), -1);
    due("k 13", x.together(13, 0), -1);
    due("what -1", x.together(1, -1), -1);
    due("what 2", x.together(1, 2), -1);
    x = Halls.of("s0100;s0300;s0660;s1030;");
    due("two fall, with what is on it", x.together(2, 1), 103);
    x = Halls.of(COLUMN + "s0100;s0500;");
    due("one alone lets one fall", x.together(1, 0), 0);
  }

  private static void cut() {
    CornerstoneSought x = Halls.of(COLUMN);
    due("on the ground", x.cut(0), -4);
    due("above it", x.cut(4), 1);
    due("the least of two", x.cut(8), 1);
    due("place -1", x.cut(-1), -1);
    due("place 12", x.cut(12), -1);
    due("none there", x.cut(1), -3);
    x = Halls.of(BEAM_ON_TWO);
    due("two at once", x.cut(5), 1 + 4);
    due("never by the beam", x.cut(2), -4);
    x = Halls.of("s0000;s0230;s0561;");
    due("a beam shifts onto plaster", x.cut(2), 1);
    x = Halls.of("s0000;p04;s0400;");
    due("with a prop", x.cut(4), -4);
    x = Halls.of("s0100;s0300;s0660;s1000;s1130;");
    due("fewer ahead of lesser", x.cut(11), 64);
  }

  private static void toGround() {
    due("none at all", new CornerstoneSought().toGround(), 0);
    due("none above", Halls.of("s0000;s0300;").toGround(), 0);
    due("column", Halls.of(COLUMN).toGround(), 1);
    due("the beam itself is fewer than its two", Halls.of(BEAM_ON_TWO).toGround(), 32);
    due("two columns", Halls.of(COLUMN + "s0300;s0700;").toGround(), 9);
    due("with a prop it is taken itself", Halls.of("p08;s0800;").toGround(), 256);
  }

  private static void longest() {
    CornerstoneSought x = Halls.of(COLUMN);
    due("all", x.longest(0), 3);
    due("from the top", x.longest(1), 8);
    x = new CornerstoneSought();
    due("none", x.longest(0), 0);
    due("no first", x.longest(1), -4);
    due("what -1", x.longest(-1), -1);
    due("what 2", x.longest(2), -1);
    x = Halls.of(BEAM_ON_TWO);
    due("three", x.longest(0), 3);
    due("by places", x.longest(1), 0);
    x = Halls.of("s0000;s0300;s0700;");
    due("the first of the first", x.longest(1), 0);
  }

  private static void game() {
    CornerstoneSought x = Halls.of(COLUMN);
    due("three by turns", x.game(0), 1);
    due("the top first", x.game(1), 8);
    x = Halls.of("s0000;s0400;");
    due("two by turns", x.game(0), 0);
    due("no place", x.game(1), -4);
    x = new CornerstoneSought();
    due("none to take", x.game(0), 0);
    due("none", x.game(1), -4);
    due("what -1", x.game(-1), -1);
    due("what 2", x.game(2), -1);
    due("the first by which", Halls.of("s0300;s0200;s0100;").game(1), 1);
  }

  private static void bombs() {
    CornerstoneSought x = Halls.of(COLUMN);
    long[][] halves = {{1, 1}, {1, 2}, {1, 4}, {1, 8}, {0, 1}};
    long[][] thirds = {{1, 1}, {2, 3}, {4, 9}, {8, 27}, {0, 1}};
    for (int k = 0; k <= 4; k++) {
      for (int part = 0; part <= 1; part++) {
        due("bombs 2 " + k, x.bombs(2, k, part), halves[k][part]);
        due("bombs 3 " + k, x.bombs(3, k, part), thirds[k][part]);
      }
    }
    due("12", x.bombs(10, 12, 0), 0);
    due("12 below", x.bombs(10, 12, 1), 1);
    due("none there", new CornerstoneSought().bombs(10, 0, 1), 1);
    int[][] bad = {{1, 0, 0}, {11, 0, 0}, {2, -1, 0}, {2, 13, 0}, {2, 0, -1}, {2, 0, 2}};
    for (int[] b : bad) due("refused " + b[0] + b[1] + b[2], x.bombs(b[0], b[1], b[2]), 1000000001L);
    String full = "s0010;s0110;s0210;s0310;s0400;s0500;s0600;s0700;";
    CornerstoneSought all = Halls.of(full + "s0800;s0900;s1000;s1100;");
    due("twelve left above", all.bombs(10, 12, 0), 282429536481L);
    due("twelve left below", all.bombs(10, 12, 1), 1000000000000L);
  }

  private static void mostLoad() {
    CornerstoneSought x = new CornerstoneSought();
    due("none", x.mostLoad(0), -4);
    due("nowhere", x.mostLoad(1), -4);
    due("what -1", x.mostLoad(-1), -1);
    due("what 2", x.mostLoad(2), -1);
    x = Halls.of("s0200;s0300;");
    due("no load", x.mostLoad(0), 0);
    due("the least", x.mostLoad(1), 2);
    x = Halls.of("s0000;s0300;s0702;");
    due("a load", x.mostLoad(0), 4);
    due("where", x.mostLoad(1), 3);
  }
}
