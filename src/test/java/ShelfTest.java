/** Promises 33 to 39: shelves. */
public final class ShelfTest {
  private static final Checks CHECKS = new Checks();

  public static void main(String[] args) {
    keep();
    row();
    put();
    element();
    copy();
    cost();
    toss();
    CHECKS.end();
  }

  private static void due(String call, long got, long want) {
    CHECKS.due(call, got, want);
  }

  private static void keep() {
    CornerstoneSought x = new CornerstoneSought();
    int[][] bad = {
      {-1, 1, 0, 0}, {8, 1, 0, 0}, {0, -1, 0, 0}, {0, 2, 0, 0}, {0, 1, -1, 0}, {0, 1, 8, 0},
      {0, 1, 0, -1}, {0, 1, 0, 10}, {-1, 0, 0, 0}, {8, 0, 0, 0}
    };
    x.keep(0, 1, 5, 4);
    for (int[] b : bad) {
      due("keep " + java.util.Arrays.toString(b), x.keep(b[0], b[1], b[2], b[3]), -1);
      due("as it was", x.cost(0), 12);
    }
    due("a kind in place of a kind", x.keep(0, 1, 7, 9), 0);
    due("it is there", x.cost(0), 1);
    due("nothing, the others do not matter", x.keep(0, 0, -5, 99), 0);
    due("nothing held", x.cost(0), -11);
    x.row(7, 0, 3);
    due("a kind in place of a row", x.keep(7, 1, 0, 0), 0);
    due("no row any more", x.put(7, 0, 1), -12);
    due("nothing in place of a kind", x.keep(7, 0, 0, 0), 0);
    due("no row, nothing", x.put(7, 0, 1), -11);
  }

  private static void row() {
    CornerstoneSought x = new CornerstoneSought();
    due("100", x.row(0, 2, 100), 0);
    due("its last", x.put(0, 99, 7), 0);
    due("101", x.row(0, 2, 101), -1);
    due("as it was", x.element(0, 99), 7);
    due("-1", x.row(0, 2, -1), -14);
    due("as it was yet", x.element(0, 99), 7);
    due("0", x.row(0, 1, 0), 0);
    CHECKS.dueElement(x, 0, 0, "ISE");
    due("anew all are 0", x.row(0, 2, 100), 0);
    due("0 there", x.element(0, 99), 0);
    due("shelf -1", x.row(-1, 0, 1), -1);
    due("shelf 8", x.row(8, 0, 1), -1);
    due("sort -1", x.row(0, -1, 1), -1);
    due("sort 3", x.row(0, 3, 1), -1);
    due("sort ahead of size", x.row(0, 3, -1), -1);
    due("least size", x.row(0, 0, Integer.MIN_VALUE), -14);
    x.keep(1, 1, 0, 0);
    due("a row in place of a kind", x.row(1, 0, 1), 0);
    due("no kind any more", x.cost(1), -12);
  }

  private static void put() {
    CornerstoneSought x = new CornerstoneSought();
    int[] values = {127, 128, -128, -129, 255, 256, 32767, 32768, -32769, 65536, 2147483647, -2147483648};
    for (int sort = 0; sort < 3; sort++) {
      x.row(sort, sort, 2);
      for (int v : values) {
        due("put " + v, x.put(sort, 1, v), 0);
        due("cut " + v, x.element(sort, 1), sort == 0 ? (byte) v : sort == 1 ? (short) v : v);
        due("beside it", x.element(sort, 0), 0);
      }
    }
    due("shelf -1", x.put(-1, 0, 0), -1);
    due("shelf 8", x.put(8, 0, 0), -1);
    due("nothing", x.put(5, 0, 0), -11);
    x.keep(5, 1, 0, 0);
    due("a kind", x.put(5, 0, 0), -12);
    due("place -1", x.put(0, -1, 0), -13);
    due("place 2", x.put(0, 2, 0), -13);
    due("the farthest", x.put(0, Integer.MAX_VALUE, 0), -13);
  }

  private static void element() {
    CornerstoneSought x = new CornerstoneSought();
    Halls.row(x, 3, 2, 5, -6);
    CHECKS.dueElement(x, 3, 0, "5");
    CHECKS.dueElement(x, 3, 1, "-6");
    CHECKS.dueElement(x, 3, 2, "ISE");
    CHECKS.dueElement(x, 3, -1, "ISE");
    CHECKS.dueElement(x, -1, 0, "IAE");
    CHECKS.dueElement(x, 8, 0, "IAE");
    CHECKS.dueElement(x, Integer.MIN_VALUE, -1, "IAE");
    CHECKS.dueElement(x, 4, 0, "ISE");
    x.keep(4, 1, 0, 0);
    CHECKS.dueElement(x, 4, 0, "ISE");
  }

  private static void copy() {
    CornerstoneSought x = new CornerstoneSought();
    Halls.row(x, 0, 0, 1, 2, 3, 4, 5);
    Halls.row(x, 1, 0, 0, 0, 0);
    Halls.row(x, 2, 1, 0, 0, 0);
    x.keep(3, 1, 0, 0);
    due("two", x.copy(0, 3, 1, 1, 2), 2);
    due("they came", x.element(1, 0) * 100 + x.element(1, 1) * 10 + x.element(1, 2), 45);
    due("onto itself", x.copy(0, 0, 0, 1, 4), 4);
    due("as they were", x.element(0, 1) * 1000 + x.element(0, 2) * 100 + x.element(0, 4), 1204);
    due("back onto itself", x.copy(0, 1, 0, 0, 4), 4);
    due("as they were then", x.element(0, 0) * 1000 + x.element(0, 3) * 100 + x.element(0, 4), 1404);
    due("none", x.copy(0, 5, 1, 3, 0), 0);
    int[][] calls = {
      {-1, 0, 1, 0, 1, -1}, {8, 0, 1, 0, 1, -1}, {0, 0, -1, 0, 1, -1}, {0, 0, 8, 0, 1, -1},
      {4, 0, 1, 0, 1, -11}, {0, 0, 4, 0, 1, -11}, {3, 0, 4, 0, 1, -11}, {4, 0, 3, 0, 1, -11},
      {3, 0, 1, 0, 1, -12}, {0, 0, 3, 0, 1, -12}, {0, 0, 2, 0, 1, -12}, {3, 0, 3, 0, 0, -12},
      {0, -1, 1, 0, 1, -13}, {0, 0, 1, -1, 1, -13}, {0, 0, 1, 0, -1, -13}, {0, 5, 1, 0, 1, -13},
      {0, 0, 1, 3, 1, -13}, {0, 3, 1, 0, 3, -13}, {0, 0, 1, 1, 3, -13}, {0, 6, 1, 0, 0, -13},
      {0, 0, 1, 4, 0, -13}, {0, 1, 1, 0, 2147483647, -13}, {0, 2147483647, 1, 0, 1, -13},
      {0, 0, 1, 2147483647, 2147483647, -13}, {0, 0, 2, 0, -1, -12}
    };
    for (int[] c : calls) {
      due("copy " + java.util.Arrays.toString(c), x.copy(c[0], c[1], c[2], c[3], c[4]), c[5]);
    }
    due("nothing changed", x.element(1, 0) * 100 + x.element(1, 1) * 10 + x.element(1, 2), 45);
  }

  private static int[] refusedShelves(CornerstoneSought x) {
    x.row(2, 0, 1);
    return new int[] {-1, 8, 1, 2};
  }

  private static final int[] REFUSALS = {-1, -1, -11, -12};

  private static void cost() {
    CornerstoneSought x = new CornerstoneSought();
    int[] bare = {2, 2, 5, 1, 5, 4, 2, 1};
    int[] seven = {2, 9, 5, 1, 12, 18, 2, 1};
    for (int k = 0; k < 8; k++) {
      x.keep(0, 1, k, 0);
      due("cost of kind " + k, x.cost(0), bare[k]);
      x.keep(0, 1, k, 7);
      due("cost of kind " + k + " figure 7", x.cost(0), seven[k]);
    }
    int[] shelves = refusedShelves(x);
    for (int i = 0; i < 4; i++) due("cost of shelf " + shelves[i], x.cost(shelves[i]), REFUSALS[i]);
  }

  private static void toss() {
    CornerstoneSought x = new CornerstoneSought();
    int[] seven = {7, 107, 7, -15, 7, 218, 7, -15};
    for (int k = 0; k < 8; k++) {
      x.keep(0, 1, k, 0);
      due("toss of kind " + k, x.toss(0), -15);
      x.keep(0, 1, k, 7);
      due("toss of kind " + k + " figure 7", x.toss(0), seven[k]);
      due("once more", x.toss(0), seven[k]);
    }
    int[] shelves = refusedShelves(x);
    for (int i = 0; i < 4; i++) due("toss of shelf " + shelves[i], x.toss(shelves[i]), REFUSALS[i]);
  }
}
