/** Promises 22 to 32: takings, the image, what is told. */
public final class TakingTest {
  private static final Checks CHECKS = new Checks();
  private static final String COLUMN = "s0000;s0400;s0800;";
  private static final String GROUND = "s0000;s0100;s0200;";

  public static void main(String[] args) {
    tins();
    forged();
    rowsRefused();
    judge();
    raids();
    felled();
    twins();
    highest();
    depends();
    image();
    count();
    CHECKS.end();
  }

  private static void due(String call, long got, long want) {
    CHECKS.due(call, got, want);
  }

  private static void dueTins(CornerstoneSought x, int ways, int first, int... row) {
    for (int sort = 0; sort < 3; sort++) {
      Halls.row(x, sort, sort, row);
      due("tins 0 of " + java.util.Arrays.toString(row), x.tins(sort, 0), ways);
      due("tins 1 of " + java.util.Arrays.toString(row), x.tins(sort, 1), first);
    }
  }

  private static void tins() {
    CornerstoneSought x = Halls.of(COLUMN);
    dueTins(x, 1, -4);
    dueTins(x, 1, 8, 2);
    dueTins(x, 1, 4, 1);
    dueTins(x, 1, 0, 0);
    dueTins(x, 0, -4, 3);
    dueTins(x, 1, 8, 2, 1);
    dueTins(x, 1, 4, 1, 0);
    dueTins(x, 1, 8, 2, 0);
    dueTins(x, 0, -4, 0, 0);
    dueTins(x, 0, -4, -1);
    x = Halls.of(GROUND);
    dueTins(x, 3, 0, 2);
    dueTins(x, 6, 0, 2, 1);
    dueTins(x, 6, 0, 2, 1, 0);
    dueTins(x, 0, -4, 2, 1, 0, 0);
    x = Halls.of(GROUND + "s0300;s0700;");
    dueTins(x, 4, 0, 4);
    dueTins(x, 1, 3, 3);
    dueTins(x, 6, 0, 3 + 1, 2, 1);
    dueTins(x, 4 * 3 * 2 * 1 + 3 * 3 * 2 + 3 * 2 * 2 + 3 * 2, 0, 4, 3, 2, 1);
    due("all are there yet", x.count(0), 5);
    due("what -1", x.tins(0, -1), -1);
    due("what 2", x.tins(0, 2), -1);
    due("what ahead of nothing held", x.tins(6, 2), -1);
  }

  private static void dueForged(CornerstoneSought x, int place, int... row) {
    Halls.row(x, 1, 2, row);
    due("forged " + java.util.Arrays.toString(row), x.forged(1), place);
  }

  private static void forged() {
    CornerstoneSought x = Halls.of(COLUMN);
    dueForged(x, -4);
    dueForged(x, -4, 2, 1, 0);
    dueForged(x, 0, 3);
    dueForged(x, 1, 0, 0);
    dueForged(x, 2, 2, 0, 0);
    dueForged(x, 3, 2, 1, 0, 0);
    dueForged(x, 1, 2, 2, 1, 0);
    dueForged(x, -4, 1, 0);
    dueForged(x, 0, 70000);
  }

  private static void rowsRefused() {
    CornerstoneSought x = Halls.of(COLUMN);
    x.row(0, 0, 5);
    x.keep(4, 1, 0, 0);
    int[] shelves = {-1, 8, 3, 4, 0};
    int[] refusals = {-1, -1, -11, -12, -13};
    for (int i = 0; i < shelves.length; i++) {
      due("tins of shelf " + shelves[i], x.tins(shelves[i], 0), refusals[i]);
      due("tins 1 of shelf " + shelves[i], x.tins(shelves[i], 1), refusals[i]);
      due("forged of shelf " + shelves[i], x.forged(shelves[i]), refusals[i]);
      due("judge of shelf " + shelves[i], x.judge(shelves[i]), i == 4 ? 0 : refusals[i]);
    }
  }

  private static void dueJudged(CornerstoneSought x, int place, int... row) {
    Halls.row(x, 2, 1, row);
    due("judge " + java.util.Arrays.toString(row), x.judge(2), place);
  }

  private static void judge() {
    CornerstoneSought x = Halls.of(COLUMN + "s0300;");
    dueJudged(x, -4);
    dueJudged(x, -4, 8, 4, 3, 0);
    dueJudged(x, 1, 8, 0);
    dueJudged(x, 0, 4, 8);
    dueJudged(x, 1, 8, 8);
    dueJudged(x, 0, 11);
    dueJudged(x, 2, 3, 8, 3);
    dueJudged(x, -13, 12);
    dueJudged(x, -13, -1);
    dueJudged(x, -13, 0, 0, 0, 12);
    due("all are there yet", x.count(0), 4);
    int[] longRow = new int[100];
    longRow[0] = 8;
    longRow[1] = 4;
    dueJudged(x, 3, longRow);
  }

  private static void raids() {
    CornerstoneSought x = Halls.of("s0010;s0110;s0210;s0310;s0400;s0500;s0600;s0700;");
    // seed 0: z is 12345, then 12345 times 1103515245 plus 12345, and so on
    int[] draws = new int[60];
    int z = 0;
    for (int i = 0; i < 60; i++) {
      z = (int) (z * 1103515245L + 12345);
      draws[i] = (z & 0x7fffffff) / 65536 % 12;
    }
    for (int n = 1; n <= 20; n++) {
      int left = 0;
      int spared = 0;
      for (int raid = 0; raid < n; raid++) {
        int there = 255;
        for (int bomb = 0; bomb < 3; bomb++) {
          int p = draws[3 * raid + bomb];
          there &= ~(1 << p | (p < 4 ? 16 << p : 0));
        }
        left += Integer.bitCount(there);
        if ((there & 15) == 15) spared++;
      }
      due("left by " + n, x.raids(n, 0, 0), left);
      due("spared by " + n, x.raids(n, 0, 1), spared);
    }
    due("all are there yet", x.count(0), 8);
    due("draws of seed 0", draws[0], 0);
    due("none in row 0", Halls.of("p04;s0400;").raids(20, 5, 1), 20);
    due("none at all", new CornerstoneSought().raids(20, -5, 0), 0);
    due("n 0", x.raids(0, 0, 0), -1);
    due("n 21", x.raids(21, 0, 0), -1);
    due("what -1", x.raids(1, 0, -1), -1);
    due("what 2", x.raids(1, 0, 2), -1);
    due("a seed below 0", x.raids(1, -2147483648, 0) > 0 ? 1 : 0, 1);
  }

  private static void felled() {
    CornerstoneSought x = Halls.of(COLUMN);
    due("one", x.felled(1), 1);
    due("two", x.felled(2), 1);
    due("three", x.felled(3), -4);
    due("k 0", x.felled(0), -1);
    due("k 13", x.felled(13), -1);
    due("k 12", x.felled(12), -4);
    x = Halls.of("s0000;s0200;s0560;");
    due("a beam by two takings", x.felled(1), 2);
    x = Halls.of(COLUMN + "s0300;s0700;s1100;");
    due("three by two takings", x.felled(3), 2);
    due("four by two takings", x.felled(4), 2);
    due("never five", x.felled(5), -4);
    due("none there", new CornerstoneSought().felled(1), -4);
  }

  private static void twins() {
    due("column", Halls.of(COLUMN).twins(), 2);
    due("all safe", Halls.of(GROUND).twins(), 3);
    due("none there", new CornerstoneSought().twins(), 0);
    due("one there", Halls.of("s0000;").twins(), 0);
    due("two pairs by two", Halls.of("s0000;s0100;s0400;s0500;").twins(), 1 + 1 + 1);
  }

  private static void highest() {
    CornerstoneSought x = new CornerstoneSought();
    due("none", x.highest(0), -4);
    due("how many of none", x.highest(1), -4);
    due("what -1", x.highest(-1), -1);
    due("what 2", x.highest(2), -1);
    x = Halls.of(GROUND);
    due("row 0", x.highest(0), 0);
    due("three in it", x.highest(1), 3);
    x = Halls.of(GROUND + "s0400;s0500;s0900;");
    due("row 2", x.highest(0), 2);
    due("one in it", x.highest(1), 1);
    x = Halls.of(GROUND + "s0400;s0500;");
    due("row 1", x.highest(0), 1);
    due("two in it", x.highest(1), 2);
  }

  private static void depends() {
    CornerstoneSought x = Halls.of(COLUMN);
    due("on none", x.depends(0), 0);
    due("on one", x.depends(4), 1);
    due("on two", x.depends(8), 17);
    due("none there", x.depends(1), -3);
    due("place -1", x.depends(-1), -1);
    due("place 12", x.depends(12), -1);
    x = Halls.of("s0000;s0200;s0560;");
    due("on neither alone", x.depends(5), 0);
    x = Halls.of("s0000;s0400;s0530;");
    due("plaster on what holds it", x.depends(5), 17);
  }

  private static void image() {
    CornerstoneSought x = Halls.of(COLUMN + "p09;");
    due("none yet", x.restore(), -3);
    due("taken", x.image(), 3);
    x.takes(0);
    x.props(9);
    x.props(3);
    Halls.lay(x, 0, 1, 9);
    due("restored", x.restore(), 3);
    due("stones", x.count(1), 273);
    due("props", x.count(2), 512);
    due("kind", x.stone(0, 0), 0);
    due("figure", x.stone(0, 1), 0);
    due("the shelf is as it was", x.cost(Halls.TEXT), 11);
    x.takes(8);
    due("restored once more", x.restore(), 3);
    x.takes(8);
    due("a later one", x.image(), 2);
    x.takes(4);
    due("is what comes", x.restore(), 2);
    x = new CornerstoneSought();
    due("of none", x.image(), 0);
    Halls.lay(x, 0, 0, 0);
    due("of none restored", x.restore(), 0);
    due("none there", x.count(1), 0);
    x = Halls.of("s0010;p05;");
    x.falls(0, 0);
    x.image();
    Halls.told(x, "x00;s0030;");
    x.restore();
    due("bears as it did", Halls.lay(x, 4, 1, 9), 0);
  }

  private static void count() {
    CornerstoneSought x = Halls.of("s0000;s0404;s0310;p11;p00;");
    due("stones", x.count(0), 3);
    due("which", x.count(1), 25);
    due("props", x.count(2), 2049);
    due("weight", x.count(3), 13);
    due("loads", x.count(4), 6);
    due("row 0", x.count(5), 2);
    due("what -1", x.count(-1), -1);
    due("what 6", x.count(6), -1);
  }
}
