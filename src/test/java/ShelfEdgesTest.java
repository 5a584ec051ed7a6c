import java.util.Arrays;

/** Promises 33 to 39: the boundary cases of shelves. */
public final class ShelfEdgesTest {
  private static final Edges EDGES = new Edges();
  private static final int EMPTY = 0;
  private static final int KIND = 1;
  private static final int BYTES = 2;
  private static final int SHORTS = 3;
  private static final int INTS = 4;
  private static final int NO_ELEMENTS = 5;

  public static void main(String[] args) {
    EDGES.test(33, "1 a KIND of STONE of KIND k with a FIGURE: 0. -1.", ShelfEdgesTest::keepRefused);
    EDGES.test(33, "what = 0 nothing (the others do not matter)", ShelfEdgesTest::keepNothing);
    EDGES.test(33, "SHELVES 0 .. 7", ShelfEdgesTest::keepOnFirstAndLast);

    EDGES.test(34, "SHELF d gets a ROW of a SORT: 0. -1 (n above 100); -14.", ShelfEdgesTest::rowRefused);
    EDGES.test(34, "0 .. 100 elements", ShelfEdgesTest::shortestAndLongestRow);
    EDGES.test(34, "elements, 0 at first", ShelfEdgesTest::elementsAreZeroAtFirst);
    EDGES.test(34, "-14 a size below 0", ShelfEdgesTest::sizeBelowZero);

    EDGES.test(35, "Element i of the ROW becomes v: 0. -1, -11, -12, -13.", ShelfEdgesTest::putRefused);
    EDGES.test(35, "what is put in keeps its lowest bits", ShelfEdgesTest::lowestBits);

    EDGES.test(36, "IllegalArgumentException: no such SHELF", ShelfEdgesTest::elementOfNoShelf);
    EDGES.test(36, "IllegalStateException: no ROW, no such place", ShelfEdgesTest::elementOfNoRow);
    EDGES.test(36, "Element i of the ROW.", ShelfEdgesTest::firstAndLastElement);

    EDGES.test(37, "-11 (either)", ShelfEdgesTest::copyOfNothing);
    EDGES.test(37, "n. -1, -11 (either), -12 (no ROWS of one SORT), -13", ShelfEdgesTest::copyRefused);
    EDGES.test(37, "(n below 0, too)", ShelfEdgesTest::copyBelowZero);
    EDGES.test(37, "-13 a place that isn't there", ShelfEdgesTest::copyBeyondTheEnds);
    EDGES.test(37, "n elements of the ROW in SHELF d from i on come to that in SHELF e from j on: n",
        ShelfEdgesTest::copyOfNoneAndAll);
    EDGES.test(37, "what is taken from a SHELF, stay there", ShelfEdgesTest::copyOntoItself);

    EDGES.test(38, "-1, -11, -12 (a ROW).", ShelfEdgesTest::costRefused);
    EDGES.test(38, "BEAM half of an ARCH's, cut", ShelfEdgesTest::leastAndGreatestCost);

    EDGES.test(39, "-1, -11, -12 (a ROW); -15: PLASTER, MOUSE, and any with FIGURE 0, have none.",
        ShelfEdgesTest::tossRefused);
    EDGES.test(39, "-15: PLASTER, MOUSE, and any with FIGURE 0, have none", ShelfEdgesTest::noFailure);
    EDGES.test(39, "of STEPS 200 plus their COST, in place of all that (FIGURE, too)", ShelfEdgesTest::failures);
    EDGES.test(39, "-12 it is of another kind", ShelfEdgesTest::firstRefusalIsTold);
    EDGES.end(33, 39);
  }

  private static void due(String call, long got, long want) {
    EDGES.due(call, got, want);
  }

  /** A shelf of each sort of thing: nothing, a kind, rows of three, a row without elements. */
  private static CornerstoneSought ready() {
    CornerstoneSought x = new CornerstoneSought();
    x.keep(KIND, 1, 5, 4);
    Halls.row(x, BYTES, 0, 1, 2, 3);
    Halls.row(x, SHORTS, 1, 4, 5, 6);
    Halls.row(x, INTS, 2, 7, 8, 9);
    x.row(NO_ELEMENTS, 0, 0);
    return x;
  }

  // ---- what a shelf gets

  private static void keepRefused() {
    int[] noKinds = {Edges.LEAST, -1, 8, Edges.GREATEST};
    int[] noFigures = {Edges.LEAST, -1, 10, Edges.GREATEST};
    for (int d = 0; d < 6; d++) {
      int at = d;
      EDGES.refused("what on " + d, ShelfEdgesTest::ready, (x, what) -> x.keep(at, what, 0, 0), Edges.NEITHER, -1);
      EDGES.refused("kind on " + d, ShelfEdgesTest::ready, (x, k) -> x.keep(at, 1, k, 0), noKinds, -1);
      EDGES.refused("figure on " + d, ShelfEdgesTest::ready, (x, f) -> x.keep(at, 1, 0, f), noFigures, -1);
    }
    EDGES.refused("shelf", ShelfEdgesTest::ready, (x, d) -> x.keep(d, 1, 0, 0), Edges.NO_SHELVES, -1);
    EDGES.refused("shelf for nothing", ShelfEdgesTest::ready, (x, d) -> x.keep(d, 0, 0, 0), Edges.NO_SHELVES, -1);
    for (int k = 0; k <= 7; k += 7) {
      for (int f = 0; f <= 9; f += 9) due("kind " + k + " figure " + f, ready().keep(0, 1, k, f), 0);
    }
  }

  private static void keepNothing() {
    int[][] others = {{0, 0}, {-1, 0}, {8, 0}, {0, -1}, {0, 10}, {Edges.LEAST, Edges.GREATEST}};
    for (int[] o : others) {
      for (int d = 0; d < 6; d++) {
        CornerstoneSought x = ready();
        due("on " + d + " with " + Arrays.toString(o), x.keep(d, 0, o[0], o[1]), 0);
        due("no kind", x.cost(d), -11);
        due("no row", x.put(d, 0, 0), -11);
        EDGES.dueElement(x, d, 0, "ISE");
      }
    }
  }

  private static void keepOnFirstAndLast() {
    for (int d = 0; d < 8; d++) {
      CornerstoneSought x = new CornerstoneSought();
      due("kept on " + d, x.keep(d, 1, 5, 9), 0);
      for (int e = 0; e < 8; e++) due("cost of " + e, x.cost(e), e == d ? 22 : -11);
      due("a row on " + d, x.row(d, 0, 1), 0);
      for (int e = 0; e < 8; e++) due("cost of " + e + " then", x.cost(e), e == d ? -12 : -11);
    }
  }

  private static void rowRefused() {
    int[] noSorts = {Edges.LEAST, -1, 3, Edges.GREATEST};
    int[] tooLong = {101, 102, Edges.GREATEST};
    for (int d = 0; d < 6; d++) {
      int at = d;
      EDGES.refused("sort on " + d, ShelfEdgesTest::ready, (x, sort) -> x.row(at, sort, 1), noSorts, -1);
      EDGES.refused("size on " + d, ShelfEdgesTest::ready, (x, n) -> x.row(at, 2, n), tooLong, -1);
    }
    EDGES.refused("shelf", ShelfEdgesTest::ready, (x, d) -> x.row(d, 0, 1), Edges.NO_SHELVES, -1);
    EDGES.refused("shelf, below 0", ShelfEdgesTest::ready, (x, d) -> x.row(d, 0, -1), Edges.NO_SHELVES, -1);
    EDGES.refused("sort, below 0", ShelfEdgesTest::ready, (x, sort) -> x.row(0, sort, -1), noSorts, -1);
    CornerstoneSought x = ready();
    x.row(BYTES, 2, 101);
    x.row(BYTES, 2, -1);
    x.put(BYTES, 0, 300);
    EDGES.dueElement(x, BYTES, 0, "44");
  }

  private static void shortestAndLongestRow() {
    for (int sort = 0; sort <= 2; sort++) {
      CornerstoneSought x = new CornerstoneSought();
      due("100 of sort " + sort, x.row(7, sort, 100), 0);
      due("the last", x.put(7, 99, 1), 0);
      due("none behind it", x.put(7, 100, 1), -13);
      due("0 of sort " + sort, x.row(7, sort, 0), 0);
      due("none at all", x.put(7, 0, 1), -13);
      due("it is a row", x.cost(7), -12);
      due("1 of sort " + sort, x.row(7, sort, 1), 0);
      due("the only one", x.put(7, 0, 1), 0);
      due("none behind that", x.put(7, 1, 1), -13);
    }
  }

  private static void elementsAreZeroAtFirst() {
    for (int sort = 0; sort <= 2; sort++) {
      CornerstoneSought x = new CornerstoneSought();
      x.row(0, sort, 100);
      for (int i = 0; i < 100; i++) EDGES.dueElement(x, 0, i, "0");
      for (int i = 0; i < 100; i++) x.put(0, i, -1);
      x.row(0, sort, 100);
      for (int i = 0; i < 100; i++) EDGES.dueElement(x, 0, i, "0");
      x.put(0, 99, 5);
      x.row(0, sort, 1);
      x.row(0, sort, 100);
      EDGES.dueElement(x, 0, 99, "0");
      x.put(0, 50, 5);
      x.keep(0, 1, 0, 0);
      x.row(0, sort, 100);
      EDGES.dueElement(x, 0, 50, "0");
    }
  }

  private static void sizeBelowZero() {
    for (int d = 0; d < 6; d++) {
      for (int sort = 0; sort <= 2; sort++) {
        int at = d;
        int of = sort;
        int[] sizes = {-1, -2, -100, Edges.LEAST};
        EDGES.refused("on " + d, ShelfEdgesTest::ready, (x, n) -> x.row(at, of, n), sizes, -14);
      }
    }
  }

  // ---- elements

  private static void putRefused() {
    EDGES.refused("shelf", ShelfEdgesTest::ready, (x, d) -> x.put(d, 0, 9), Edges.NO_SHELVES, -1);
    int[] noPlaces = {Edges.LEAST, -1, 3, 100, Edges.GREATEST};
    for (int d = BYTES; d <= INTS; d++) {
      int at = d;
      EDGES.refused("place on " + d, ShelfEdgesTest::ready, (x, i) -> x.put(at, i, 9), noPlaces, -13);
    }
    EDGES.refused("nothing", ShelfEdgesTest::ready, x -> x.put(EMPTY, 0, 9), -11);
    EDGES.refused("a kind", ShelfEdgesTest::ready, x -> x.put(KIND, 0, 9), -12);
    EDGES.refused("no elements", ShelfEdgesTest::ready, x -> x.put(NO_ELEMENTS, 0, 9), -13);
    EDGES.refused("no shelf, no place", ShelfEdgesTest::ready, x -> x.put(8, -1, 9), -1);
    EDGES.refused("nothing, no place", ShelfEdgesTest::ready, x -> x.put(EMPTY, -1, 9), -11);
    EDGES.refused("a kind, no place", ShelfEdgesTest::ready, x -> x.put(KIND, -1, 9), -12);
  }

  private static void lowestBits() {
    int[] values = {
      0, 1, -1, 126, 127, 128, 129, 254, 255, 256, -127, -128, -129, 32766, 32767, 32768, 65535,
      65536, -32767, -32768, -32769, 70000, Edges.GREATEST, Edges.LEAST
    };
    for (int v : values) {
      CornerstoneSought x = ready();
      for (int d = BYTES; d <= INTS; d++) due("put " + v, x.put(d, 1, v), 0);
      long ofByte = ((long) v & 255) - (((long) v & 128) << 1);
      long ofShort = ((long) v & 65535) - (((long) v & 32768) << 1);
      EDGES.dueElement(x, BYTES, 1, "" + ofByte);
      EDGES.dueElement(x, SHORTS, 1, "" + ofShort);
      EDGES.dueElement(x, INTS, 1, "" + v);
      EDGES.dueElement(x, BYTES, 0, "1");
      EDGES.dueElement(x, BYTES, 2, "3");
    }
  }

  private static void elementOfNoShelf() {
    for (int d : Edges.NO_SHELVES) {
      EDGES.dueElement(ready(), d, 0, "IAE");
      EDGES.dueElement(ready(), d, -1, "IAE");
      EDGES.dueElement(ready(), d, 100, "IAE");
    }
  }

  private static void elementOfNoRow() {
    for (int i : new int[] {Edges.LEAST, -1, 0, 3, 100, Edges.GREATEST}) {
      EDGES.dueElement(ready(), EMPTY, i, "ISE");
      EDGES.dueElement(ready(), KIND, i, "ISE");
      EDGES.dueElement(ready(), NO_ELEMENTS, i, "ISE");
      if (i != 0) EDGES.dueElement(ready(), INTS, i, "ISE");
    }
    CornerstoneSought x = ready();
    x.row(INTS, 2, 100);
    x.row(INTS, 2, 2);
    EDGES.dueElement(x, INTS, 2, "ISE");
    String ahead = Halls.whole(x);
    EDGES.dueElement(x, KIND, 0, "ISE");
    EDGES.dueElement(x, 8, 0, "IAE");
    due("nothing changes", Halls.whole(x).equals(ahead) ? 1 : 0, 1);
  }

  private static void firstAndLastElement() {
    CornerstoneSought x = ready();
    EDGES.dueElement(x, BYTES, 0, "1");
    EDGES.dueElement(x, BYTES, 2, "3");
    EDGES.dueElement(x, INTS, 0, "7");
    EDGES.dueElement(x, INTS, 2, "9");
    for (int d = 0; d < 8; d += 7) {
      Halls.row(x, d, 1, -2);
      EDGES.dueElement(x, d, 0, "-2");
    }
  }

  // ---- copies

  private static void copyOfNothing() {
    EDGES.refused("from nothing", ShelfEdgesTest::ready, x -> x.copy(EMPTY, 0, BYTES, 0, 1), -11);
    EDGES.refused("to nothing", ShelfEdgesTest::ready, x -> x.copy(BYTES, 0, EMPTY, 0, 1), -11);
    EDGES.refused("none from nothing", ShelfEdgesTest::ready, x -> x.copy(EMPTY, 0, BYTES, 0, 0), -11);
    EDGES.refused("none from nothing to it", ShelfEdgesTest::ready, x -> x.copy(EMPTY, 0, EMPTY, 0, 0), -11);
    EDGES.refused("from a kind to nothing", ShelfEdgesTest::ready, x -> x.copy(KIND, 0, EMPTY, 0, 1), -11);
    EDGES.refused("from nothing to a kind", ShelfEdgesTest::ready, x -> x.copy(EMPTY, 0, KIND, 0, 1), -11);
    EDGES.refused("from nothing, below 0", ShelfEdgesTest::ready, x -> x.copy(EMPTY, 0, BYTES, 0, -1), -11);
  }

  private static void copyRefused() {
    for (int e : new int[] {EMPTY, KIND, BYTES}) {
      EDGES.refused("from shelf", ShelfEdgesTest::ready, (x, d) -> x.copy(d, 0, e, 0, 1), Edges.NO_SHELVES, -1);
      EDGES.refused("to shelf", ShelfEdgesTest::ready, (x, d) -> x.copy(e, 0, d, 0, 1), Edges.NO_SHELVES, -1);
    }
    for (int d = KIND; d <= INTS; d++) {
      for (int e = KIND; e <= INTS; e++) {
        if (d == e && d != KIND) continue;
        int from = d;
        int to = e;
        String call = d + " to " + e;
        EDGES.refused(call, ShelfEdgesTest::ready, x -> x.copy(from, 0, to, 0, 1), -12);
        EDGES.refused(call + ", none", ShelfEdgesTest::ready, x -> x.copy(from, 0, to, 0, 0), -12);
        EDGES.refused(call + ", below 0", ShelfEdgesTest::ready, x -> x.copy(from, 0, to, 0, -1), -12);
        EDGES.refused(call + ", no place", ShelfEdgesTest::ready, x -> x.copy(from, 9, to, 9, 1), -12);
      }
    }
  }

  private static void copyBelowZero() {
    int[] sizes = {-1, -2, Edges.LEAST};
    EDGES.refused("n", ShelfEdgesTest::ready, (x, n) -> x.copy(INTS, 0, INTS, 0, n), sizes, -13);
    EDGES.refused("n from the last", ShelfEdgesTest::ready, (x, n) -> x.copy(INTS, 2, INTS, 2, n), sizes, -13);
  }

  private static CornerstoneSought twoRows() {
    CornerstoneSought x = ready();
    Halls.row(x, 6, 2, 1, 2, 3, 4, 5);
    return x;
  }

  private static void copyBeyondTheEnds() {
    int[] noPlaces = {Edges.LEAST, -1, 3, 4, Edges.GREATEST};
    EDGES.refused("from", ShelfEdgesTest::twoRows, (x, i) -> x.copy(INTS, i, 6, 0, 1), noPlaces, -13);
    EDGES.refused("to", ShelfEdgesTest::twoRows, (x, j) -> x.copy(6, 0, INTS, j, 1), noPlaces, -13);
    int[] tooMany = {4, 100, Edges.GREATEST};
    EDGES.refused("so many from", ShelfEdgesTest::twoRows, (x, n) -> x.copy(INTS, 0, 6, 0, n), tooMany, -13);
    EDGES.refused("so many to", ShelfEdgesTest::twoRows, (x, n) -> x.copy(6, 0, INTS, 0, n), tooMany, -13);
    EDGES.refused("one too many from", ShelfEdgesTest::twoRows, x -> x.copy(INTS, 1, 6, 0, 3), -13);
    EDGES.refused("one too many to", ShelfEdgesTest::twoRows, x -> x.copy(6, 0, INTS, 1, 3), -13);
    EDGES.refused("none from beyond", ShelfEdgesTest::twoRows, x -> x.copy(INTS, 4, 6, 0, 0), -13);
    EDGES.refused("none to beyond", ShelfEdgesTest::twoRows, x -> x.copy(6, 0, INTS, 4, 0), -13);
    EDGES.refused("none from below", ShelfEdgesTest::twoRows, x -> x.copy(INTS, -1, 6, 0, 0), -13);
    int most = Edges.GREATEST;
    EDGES.refused("all the greatest", ShelfEdgesTest::twoRows, x -> x.copy(6, most, INTS, most, most), -13);
    EDGES.refused("a sum that wraps", ShelfEdgesTest::twoRows, x -> x.copy(6, 3, INTS, 0, most - 1), -13);
  }

  private static void copyOfNoneAndAll() {
    CornerstoneSought x = twoRows();
    due("all of the shorter", x.copy(INTS, 0, 6, 2, 3), 3);
    int[] then = {1, 2, 7, 8, 9};
    for (int i = 0; i < 5; i++) EDGES.dueElement(x, 6, i, "" + then[i]);
    due("the last to the first", x.copy(6, 4, 6, 0, 1), 1);
    EDGES.dueElement(x, 6, 0, "9");
    due("none", x.copy(6, 0, INTS, 0, 0), 0);
    due("none at the ends", x.copy(6, 5, INTS, 3, 0), 0);
    due("none of no elements", x.copy(NO_ELEMENTS, 0, NO_ELEMENTS, 0, 0), 0);
    due("one of no elements", x.copy(NO_ELEMENTS, 0, NO_ELEMENTS, 0, 1), -13);
    for (int i = 0; i < 3; i++) EDGES.dueElement(x, INTS, i, "" + (7 + i));
    x.row(0, 1, 100);
    x.row(7, 1, 100);
    x.put(0, 99, -5);
    due("a hundred", x.copy(0, 0, 7, 0, 100), 100);
    EDGES.dueElement(x, 7, 99, "-5");
    due("a hundred and one", x.copy(0, 0, 7, 0, 101), -13);
  }

  private static void copyOntoItself() {
    CornerstoneSought x = twoRows();
    due("up", x.copy(6, 0, 6, 1, 4), 4);
    int[] up = {1, 1, 2, 3, 4};
    for (int i = 0; i < 5; i++) EDGES.dueElement(x, 6, i, "" + up[i]);
    x = twoRows();
    due("down", x.copy(6, 1, 6, 0, 4), 4);
    int[] down = {2, 3, 4, 5, 5};
    for (int i = 0; i < 5; i++) EDGES.dueElement(x, 6, i, "" + down[i]);
    due("all to where they are", x.copy(6, 0, 6, 0, 5), 5);
    for (int i = 0; i < 5; i++) EDGES.dueElement(x, 6, i, "" + down[i]);
  }

  // ---- what a kind costs, how it fails

  private static void costRefused() {
    EDGES.refused("shelf", ShelfEdgesTest::ready, (x, d) -> x.cost(d), Edges.NO_SHELVES, -1);
    EDGES.refused("nothing", ShelfEdgesTest::ready, x -> x.cost(EMPTY), -11);
    EDGES.refused("a row", ShelfEdgesTest::ready, (x, d) -> x.cost(d), new int[] {BYTES, SHORTS, INTS, NO_ELEMENTS}, -12);
  }

  private static void leastAndGreatestCost() {
    int[] least = {2, 2, 5, 1, 5, 4, 2, 1};
    int[] greatest = {2, 11, 5, 1, 14, 22, 2, 1};
    for (int k = 0; k < 8; k++) {
      CornerstoneSought x = new CornerstoneSought();
      x.keep(0, 1, k, 0);
      due("kind " + k + " figure 0", x.cost(0), least[k]);
      x.keep(0, 1, k, 9);
      due("kind " + k + " figure 9", x.cost(0), greatest[k]);
    }
  }

  private static void tossRefused() {
    EDGES.refused("shelf", ShelfEdgesTest::ready, (x, d) -> x.toss(d), Edges.NO_SHELVES, -1);
    EDGES.refused("nothing", ShelfEdgesTest::ready, x -> x.toss(EMPTY), -11);
    EDGES.refused("a row", ShelfEdgesTest::ready, (x, d) -> x.toss(d), new int[] {BYTES, SHORTS, INTS, NO_ELEMENTS}, -12);
  }

  private static CornerstoneSought kept(int k, int figure) {
    CornerstoneSought x = new CornerstoneSought();
    x.keep(0, 1, k, figure);
    return x;
  }

  private static void noFailure() {
    for (int k = 0; k < 8; k++) {
      int kind = k;
      EDGES.refused("figure 0 of kind " + k, () -> kept(kind, 0), x -> x.toss(0), -15);
    }
    for (int f = 0; f <= 9; f++) {
      int figure = f;
      EDGES.refused("plaster " + f, () -> kept(3, figure), x -> x.toss(0), -15);
      EDGES.refused("mouse " + f, () -> kept(7, figure), x -> x.toss(0), -15);
    }
  }

  private static void failures() {
    for (int f = 1; f <= 9; f++) {
      int[] want = {f, 100 + f, f, -15, f, 200 + 2 * (2 + f), f, -15};
      for (int k = 0; k < 8; k++) due("kind " + k + " figure " + f, kept(k, f).toss(0), want[k]);
    }
  }

  private static void firstRefusalIsTold() {
    EDGES.refused("a row has no failure either", ShelfEdgesTest::ready, x -> x.toss(BYTES), -12);
    EDGES.refused("nor has nothing", ShelfEdgesTest::ready, x -> x.toss(EMPTY), -11);
    EDGES.refused("a row of shorts, no text", ShelfEdgesTest::ready, x -> x.hall(SHORTS), -12);
    EDGES.refused("more than 4, and no pairs", () -> {
      CornerstoneSought x = ready();
      Halls.row(x, 6, 2, 1, 2, 3, 4, 5);
      return x;
    }, x -> x.tins(6, 2), -1);
  }
}
