import java.util.Arrays;

/** Promises 17 to 21: the boundary cases of notes and props. */
public final class NoteEdgesTest {
  private static final Edges EDGES = new Edges();
  private static final String COLUMN = "s0000;s0400;s0800;";
  private static final int EMPTY = 0;
  private static final int KIND = 1;
  private static final int ROW = 2;
  private static final int BAD_ROW = 3;

  public static void main(String[] args) {
    EDGES.test(17, "WHICH by the ROW in SHELF d: bits (what 0), how many (1). -1, -11, -12 (no ROW)",
        NoteEdgesTest::whichRefused);
    EDGES.test(17, "an unwhole pair", NoteEdgesTest::unwholePairs);
    EDGES.test(17, "no PLACE, NOTE not 0 .. 50", NoteEdgesTest::noPlaceOrNote);
    EDGES.test(17, "(50: none there)", NoteEdgesTest::silence);
    EDGES.test(17, "PLACES (bits) that could be that; how many.", NoteEdgesTest::fewestAndMostSuspects);
    EDGES.test(17, "A ROW has a SORT (0 bytes, 1 shorts, 2 ints)", NoteEdgesTest::notesOfAnySort);

    EDGES.test(18, "TAP NEXT by the ROW in SHELF d; -4. -1, -11, -12, -13 likewise.",
        NoteEdgesTest::tapNextRefused);
    EDGES.test(18, "-4 fewer than two", NoteEdgesTest::fewerThanTwo);
    EDGES.test(18, "would part these into most kinds, of several the least", NoteEdgesTest::leastOfBestTaps);

    EDGES.test(19, "PROPS wanted (bits); -4.", NoteEdgesTest::noPropsWanted);
    EDGES.test(19, "4 at most", NoteEdgesTest::fourPropsAtMost);
    EDGES.test(19, "at any PLACES without", NoteEdgesTest::propsWhereNoneIs);
    EDGES.test(19, "PROPS: the fewest PROPS more (bits, at any PLACES without; of several the least",
        NoteEdgesTest::fewestProps);

    EDGES.test(20, "MORE. -1, -3.", NoteEdgesTest::moreRefused);
    EDGES.test(20, "the greatest WEIGHT (0 .. 99)", NoteEdgesTest::leastAndGreatestMore);
    EDGES.test(20, "(itself alone)", NoteEdgesTest::moreOfItselfAlone);

    EDGES.test(21, "LEAN: by how much (what 0), the COLUMN (1). Refused as told: -1.",
        NoteEdgesTest::leanRefused);
    EDGES.test(21, "(-1 is told as 1000000001)", NoteEdgesTest::leanBelowZeroIsNoRefusal);
    EDGES.test(21, "the COLUMN with the most, of several the least", NoteEdgesTest::heaviestColumn);
    EDGES.end(17, 21);
  }

  private static void due(String call, long got, long want) {
    EDGES.due(call, got, want);
  }

  /** A column of three, and shelves with nothing, a kind, a row as told, a row that is not. */
  private static CornerstoneSought ready() {
    CornerstoneSought x = Halls.of(COLUMN);
    x.keep(KIND, 1, 0, 1);
    Halls.row(x, ROW, 0, 4, 50);
    Halls.row(x, BAD_ROW, 2, 4, 51);
    return x;
  }

  private static CornerstoneSought heard(String text, int... row) {
    CornerstoneSought x = Halls.of(text);
    Halls.row(x, ROW, 2, row);
    return x;
  }

  private static void whichRefused() {
    for (int what = 0; what <= 1; what++) {
      int asked = what;
      EDGES.refused("shelf", NoteEdgesTest::ready, (x, d) -> x.which(d, asked), Edges.NO_SHELVES, -1);
      EDGES.refused("nothing", NoteEdgesTest::ready, x -> x.which(EMPTY, asked), -11);
      EDGES.refused("a kind", NoteEdgesTest::ready, x -> x.which(KIND, asked), -12);
      EDGES.refused("a row not as told", NoteEdgesTest::ready, x -> x.which(BAD_ROW, asked), -13);
    }
    for (int d : new int[] {EMPTY, KIND, ROW, BAD_ROW}) {
      EDGES.refused("what", NoteEdgesTest::ready, (x, what) -> x.which(d, what), Edges.NEITHER, -1);
    }
    for (int d = 0; d < 8; d += 7) {
      CornerstoneSought x = Halls.of(COLUMN);
      Halls.row(x, d, 0, 4, 50);
      due("shelf " + d, x.which(d, 0), 1 + 16);
    }
  }

  /** A row is no row of pairs, for which and for tapNext. */
  private static void notAsTold(int... row) {
    String call = row.length + " elements, the last few " + Arrays.toString(
        Arrays.copyOfRange(row, Math.max(0, row.length - 3), row.length));
    EDGES.refused("which 0, " + call, () -> heard(COLUMN, row), x -> x.which(ROW, 0), -13);
    EDGES.refused("which 1, " + call, () -> heard(COLUMN, row), x -> x.which(ROW, 1), -13);
    EDGES.refused("tapNext, " + call, () -> heard(COLUMN, row), x -> x.tapNext(ROW), -13);
  }

  private static void unwholePairs() {
    notAsTold(4);
    notAsTold(4, 50, 0);
    notAsTold(new int[99]);
    due("none", heard(COLUMN).which(ROW, 1), 3);
    due("one", heard(COLUMN, 4, 50).which(ROW, 1), 2);
    due("fifty", heard(COLUMN, new int[100]).which(ROW, 1), 0);
  }

  private static void noPlaceOrNote() {
    for (int p : Edges.NO_PLACES) {
      notAsTold(p, 0);
      notAsTold(4, 50, p, 50);
    }
    for (int note : new int[] {Edges.LEAST, -1, 51, Edges.GREATEST}) {
      notAsTold(4, note);
      notAsTold(4, 50, 0, note);
    }
    int[] lastPlace = new int[100];
    lastPlace[98] = 12;
    notAsTold(lastPlace);
    int[] lastNote = new int[100];
    lastNote[99] = 51;
    notAsTold(lastNote);
    // one that none could be: the pairs behind it are looked at, too
    notAsTold(4, 1, 12, 0);
    due("place 0, note 0", heard(COLUMN, 0, 0).which(ROW, 0), 0);
    due("place 11, note 50", heard(COLUMN, 11, 50).which(ROW, 0), 273);
    due("note 0 of a mouse", heard("s0170;s0200;", 1, 0).which(ROW, 0), 4);
    due("note 49 of a stone", heard("s0105;s0200;", 1, 49).which(ROW, 0), 4);
  }

  private static void silence() {
    due("none at 8", heard(COLUMN, 8, 50).which(ROW, 0), 273);
    due("none at 0", heard(COLUMN, 0, 50).which(ROW, 0), 1);
    due("one at 0", heard(COLUMN, 0, 14).which(ROW, 0), 16);
    due("none where none was", heard(COLUMN, 7, 50).which(ROW, 0), 273);
    due("a note where none was", heard(COLUMN, 7, 0).which(ROW, 0), 0);
  }

  private static void fewestAndMostSuspects() {
    due("no stones", heard("p00;").which(ROW, 0), 0);
    due("how many", heard("p00;").which(ROW, 1), 0);
    due("nothing heard", heard(COLUMN).which(ROW, 0), 273);
    due("as told twice", heard(COLUMN, 4, 50, 4, 50).which(ROW, 0), 17);
    due("told in two ways", heard(COLUMN, 4, 50, 4, 14).which(ROW, 0), 0);
    due("all as it is now", heard(COLUMN, 0, 26, 4, 20, 8, 14).which(ROW, 1), 0);
    CornerstoneSought x = Halls.of(COLUMN);
    int[][] rows = {{0, 14}, {0, 20}, {0, 14}, {0, 26}, {0, 50}};
    int[] found = {16, 256, 16, 0, 1};
    for (int i = 0; i < rows.length; i++) {
      Halls.row(x, ROW, 0, rows[i]);
      x.falls(i % 2 * 4, 0);
      due("one row behind the other, " + i, x.which(ROW, 0), found[i]);
    }
    x = heard("s0300;p11;s1100;");
    due("3 and 11", x.which(ROW, 0), 8 + 2048);
    due("two", x.which(ROW, 1), 2);
  }

  private static void notesOfAnySort() {
    for (int sort = 0; sort <= 2; sort++) {
      CornerstoneSought x = Halls.of(COLUMN);
      Halls.row(x, ROW, sort, 4, 50);
      due("which by sort " + sort, x.which(ROW, 0), 17);
      due("tapNext by sort " + sort, x.tapNext(ROW), 0);
      x.put(ROW, 0, 4 + 256);
      due("more than a byte, sort " + sort, x.which(ROW, 0), sort == 0 ? 17 : -13);
      x.put(ROW, 0, 4 + 65536);
      due("more than a short, sort " + sort, x.which(ROW, 0), sort <= 1 ? 17 : -13);
    }
  }

  private static void tapNextRefused() {
    EDGES.refused("shelf", NoteEdgesTest::ready, (x, d) -> x.tapNext(d), Edges.NO_SHELVES, -1);
    EDGES.refused("nothing", NoteEdgesTest::ready, x -> x.tapNext(EMPTY), -11);
    EDGES.refused("a kind", NoteEdgesTest::ready, x -> x.tapNext(KIND), -12);
    EDGES.refused("a row not as told", NoteEdgesTest::ready, x -> x.tapNext(BAD_ROW), -13);
    EDGES.refused("not as told ahead of no stones", () -> heard("p00;", 4), x -> x.tapNext(ROW), -13);
    for (int d = 0; d < 8; d += 7) {
      CornerstoneSought x = Halls.of(COLUMN);
      Halls.row(x, d, 0, 4, 50);
      due("shelf " + d, x.tapNext(d), 0);
    }
  }

  private static void fewerThanTwo() {
    due("no stones", heard("p00;").tapNext(ROW), -4);
    due("one stone", heard("s0000;").tapNext(ROW), -4);
    due("none could be", heard(COLUMN, 4, 0).tapNext(ROW), -4);
    due("one could be", heard(COLUMN, 4, 14).tapNext(ROW), -4);
    due("two could be", heard(COLUMN, 4, 50).tapNext(ROW), 0);
    due("two stones", heard("s0200;s0300;").tapNext(ROW), 2);
  }

  private static void leastOfBestTaps() {
    due("two kinds at either", heard("s0200;s0300;").tapNext(ROW), 2);
    due("three kinds at 0, two at 4", heard(COLUMN).tapNext(ROW), 0);
    due("two kinds at 0, four at 1", heard("s0000;s0100;s0500;s0900;").tapNext(ROW), 1);
    due("four kinds at 1 and at 2", heard("s0100;s0500;s0900;s0200;s0600;s1000;").tapNext(ROW), 1);
    String two = COLUMN + "s0100;s0500;s0900;";
    due("four kinds at 0 and at 1", heard(two).tapNext(ROW), 0);
    due("three at 1 of those that could be", heard(two, 0, 26).tapNext(ROW), 1);
    due("two kinds at 0, three at 7", heard("s0000;p07;s0700;s1100;").tapNext(ROW), 7);
  }

  private static void noPropsWanted() {
    due("no stones", new CornerstoneSought().propsWanted(), 0);
    due("one stone", Halls.of("s0000;").propsWanted(), 0);
    due("all on the ground", Halls.of("s0000;s0100;s0200;s0300;").propsWanted(), 0);
    due("all by props", Halls.of("p04;p11;s0400;s1100;").propsWanted(), 0);
    due("a beam on two", Halls.of("s0000;s0200;s0560;").propsWanted(), 0);
  }

  private static void fourPropsAtMost() {
    String two = COLUMN + "s0100;s0500;s0900;";
    due("two", Halls.of(COLUMN).propsWanted(), 16 + 256);
    due("three", Halls.of(COLUMN + "s0100;s0500;").propsWanted(), 16 + 32 + 256);
    due("four", Halls.of(two).propsWanted(), 16 + 32 + 256 + 512);
    due("five", Halls.of(two + "s0200;s0600;").propsWanted(), -4);
    due("five less one that is there", Halls.of(two + "s0200;s0600;p04;").propsWanted(), 32 + 64 + 256 + 512);
    String bottom = "s0000;s0100;s0200;s0300;";
    due("four in row 1", Halls.of(bottom + "s0400;s0500;s0600;s0700;").propsWanted(), 0xf0);
    String props = "p04;p05;p06;p07;s0400;s0500;s0600;s0700;";
    due("the last four places", Halls.of(props + "s0800;s0900;s1000;s1100;").propsWanted(), 0xf00);
  }

  private static void propsWhereNoneIs() {
    due("one of two is there", Halls.of(COLUMN + "p08;").propsWanted(), 16);
    due("the other is there", Halls.of(COLUMN + "p04;").propsWanted(), 256);
    due("on the ground it is no matter", Halls.of(COLUMN + "p00;").propsWanted(), 16 + 256);
    due("where no stone is it is no matter", Halls.of(COLUMN + "p01;p05;").propsWanted(), 16 + 256);
    CornerstoneSought x = Halls.of(COLUMN);
    x.propsWanted();
    due("none comes by asking", x.count(2), 0);
  }

  private static void fewestProps() {
    due("one", Halls.of("s0000;s0400;").propsWanted(), 16);
    due("plaster that hangs, and what it hangs on", Halls.of("s0000;s0400;s0530;").propsWanted(), 16 + 32);
    due("the beam, not what it would come down on", Halls.of("s0000;s0230;s0561;").propsWanted(), 32);
    // behind 1 the beam on 5 and plaster on 6 are 1 too much for the beam on 2: either's prop will do
    due("the least of two", Halls.of("s0100;s0263;s0562;s0633;").propsWanted(), 32);
    due("none, if that is there", Halls.of("s0100;s0263;s0562;s0633;p05;").propsWanted(), 0);
  }

  private static void moreRefused() {
    EDGES.refused("place", NoteEdgesTest::ready, (x, p) -> x.more(p), Edges.NO_PLACES, -1);
    EDGES.refused("none at", NoteEdgesTest::ready, (x, p) -> x.more(p), new int[] {1, 3, 11}, -3);
    due("place 0", Halls.of("s0000;").more(0), 20);
    due("place 11", Halls.of("p11;s1100;").more(11), 20);
  }

  private static void leastAndGreatestMore() {
    due("a mouse", Halls.of("s0079;").more(0), 0);
    due("a mouse with a mouse on it", Halls.of("s0070;s0470;").more(0), 0);
    due("plaster with all it bears", Halls.of("s0030;s0401;").more(0), 0);
    due("plaster with one less", Halls.of("s0030;s0400;").more(0), 1);
    due("plaster", Halls.of("s0030;").more(0), 3);
    due("a corner", Halls.of("s0019;").more(0), 40);
    due("a step", Halls.of("s0059;").more(0), 31);
    due("a key", Halls.of("s0049;").more(0), 21);
    due("a corner with all it bears", Halls.of("s0110;s0469;s0549;s0930;").more(1), 0);
    for (int w = 0; w <= 3; w++) {
      CornerstoneSought x = Halls.of("s0031;");
      int more = x.more(0);
      int kind = w == 0 ? 7 : w == 1 ? 3 : 0;
      due("weight " + w + " can be laid", Halls.lay(x, 4, kind, Math.max(0, w - 2)), w <= more ? 0 : 2);
    }
    due("4 can not", Halls.lay(Halls.of("s0031;"), 4, 0, 2), 2);
  }

  private static void moreOfItselfAlone() {
    CornerstoneSought x = Halls.of("s0030;s0401;");
    due("what is below bears no more", x.more(0), 0);
    due("and is not asked", x.more(4), 20);
    due("with a prop", Halls.of("p04;s0409;s0809;").more(4), 9);
  }

  private static void leanRefused() {
    EDGES.refused("what", NoteEdgesTest::ready, (x, what) -> x.lean(what), Edges.NEITHER, 1000000001L);
    EDGES.refused("what of none", CornerstoneSought::new, (x, what) -> x.lean(what), Edges.NEITHER, 1000000001L);
    due("no stones", new CornerstoneSought().lean(0), 0);
    due("the column of none", new CornerstoneSought().lean(1), 0);
  }

  private static void leanBelowZeroIsNoRefusal() {
    due("1 to the right", Halls.of("s0000;s0201;").lean(0), -1);
    due("4 to the right", Halls.of("s0302;").lean(0), -4);
    due("level", Halls.of("s0000;s0300;").lean(0), 0);
    due("1 to the left", Halls.of("s0101;s0200;").lean(0), 1);
    int[] sides = {1, 1, -1, -1};
    for (int p = 0; p < 12; p++) {
      CornerstoneSought x = new CornerstoneSought();
      x.props(p);
      Halls.lay(x, p, 0, 9);
      due("11 at " + p, x.lean(0), 11 * sides[p % 4]);
      due("the column of " + p, x.lean(1), p % 4);
    }
  }

  private static void heaviestColumn() {
    due("all as heavy", Halls.of("s0000;s0100;s0200;s0300;").lean(1), 0);
    due("1 and 3", Halls.of("s0000;s0101;s0200;s0301;").lean(1), 1);
    due("2 and 3", Halls.of("s0000;s0202;s0302;").lean(1), 2);
    due("by one more", Halls.of("s0002;s0202;s0303;").lean(1), 3);
    due("no weight at all", Halls.of("s0379;").lean(1), 0);
    due("by three rows", Halls.of("s0103;s0200;s0600;s1000;").lean(1), 2);
  }
}
