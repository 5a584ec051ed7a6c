/** Promises 17 to 21: notes, props. */
public final class NoteTest {
  private static final Checks CHECKS = new Checks();
  private static final String COLUMN = "s0000;s0400;s0800;";

  public static void main(String[] args) {
    which();
    tapNext();
    rowsRefused();
    propsWanted();
    more();
    lean();
    CHECKS.end();
  }

  private static void due(String call, long got, long want) {
    CHECKS.due(call, got, want);
  }

  private static void which() {
    CornerstoneSought x = Halls.of(COLUMN);
    x.row(0, 2, 0);
    due("nothing heard", x.which(0, 0), 1 + 16 + 256);
    due("how many", x.which(0, 1), 3);
    Halls.row(x, 0, 0, 4, 50);
    due("no note at 4", x.which(0, 0), 1 + 16);
    due("how many of these", x.which(0, 1), 2);
    Halls.row(x, 0, 1, 4, 50, 0, 14);
    due("and 0 alone", x.which(0, 0), 16);
    Halls.row(x, 0, 2, 0, 20);
    due("0 with one on it", x.which(0, 0), 256);
    Halls.row(x, 0, 2, 0, 26);
    due("as it is with all", x.which(0, 0), 0);
    due("none", x.which(0, 1), 0);
    Halls.row(x, 0, 2, 0, 20, 0, 14);
    due("two notes of one place", x.which(0, 0), 0);
    due("what -1", x.which(0, -1), -1);
    due("what 2", x.which(0, 2), -1);
    due("what ahead of nothing held", x.which(5, 2), -1);
  }

  private static void tapNext() {
    CornerstoneSought x = Halls.of(COLUMN);
    x.row(0, 0, 0);
    due("three kinds at 0", x.tapNext(0), 0);
    Halls.row(x, 0, 0, 4, 14);
    due("one is left", x.tapNext(0), -4);
    Halls.row(x, 0, 0, 4, 13);
    due("none is left", x.tapNext(0), -4);
    x = Halls.of("s0200;s0300;");
    x.row(0, 0, 0);
    due("the least of several", x.tapNext(0), 2);
    x = Halls.of("s0000;s0100;s0400;s0500;s0900;");
    Halls.row(x, 0, 0, 0, 20);
    due("three are left", x.which(0, 0), 2 + 32 + 512);
    due("1 parts them all", x.tapNext(0), 1);
    x = Halls.of("s0100;s0000;s0300;s0700;s1100;");
    x.row(0, 0, 0);
    due("most kinds, not the first", x.tapNext(0), 3);
    due("none", new CornerstoneSought().tapNext(0), -11);
  }

  private static void rowsRefused() {
    CornerstoneSought x = Halls.of(COLUMN);
    int[][] bad = {{1}, {1, 2, 3}, {12, 0}, {-1, 0}, {0, 51}, {0, -1}, {0, 14, 0, 51}, {0, 14, 99, 0}};
    for (int[] row : bad) {
      Halls.row(x, 0, 2, row);
      due("which " + row.length, x.which(0, 0), -13);
      due("tapNext " + row.length, x.tapNext(0), -13);
    }
    int[] shelves = {-1, 8, 3, 4};
    int[] refusals = {-1, -1, -11, -12};
    x.keep(4, 1, 0, 0);
    for (int i = 0; i < 4; i++) {
      due("which of shelf " + shelves[i], x.which(shelves[i], 0), refusals[i]);
      due("tapNext of shelf " + shelves[i], x.tapNext(shelves[i]), refusals[i]);
    }
    Halls.row(x, 0, 0, 11, 50, 0, 0);
    due("11, 50 and 0 are as told", x.which(0, 0), 0);
    due("and for tapNext", x.tapNext(0), -4);
  }

  private static void propsWanted() {
    due("no stones", new CornerstoneSought().propsWanted(), 0);
    due("none wanted", Halls.of("s0000;s0100;").propsWanted(), 0);
    due("a column", Halls.of(COLUMN).propsWanted(), 16 + 256);
    due("one of them there", Halls.of(COLUMN + "p08;").propsWanted(), 16);
    due("both there", Halls.of(COLUMN + "p08;p04;").propsWanted(), 0);
    due("four", Halls.of(COLUMN + "s0100;s0500;s0900;").propsWanted(), 16 + 32 + 256 + 512);
    due("five", Halls.of(COLUMN + "s0100;s0500;s0900;s0200;s0600;").propsWanted(), -4);
    String top = "p04;p05;p06;p07;s0400;s0500;s0600;s0700;s0800;s0900;s1000;s1100;";
    due("the last four", Halls.of(top).propsWanted(), 256 + 512 + 1024 + 2048);
    due("a prop on the ground is no matter", Halls.of("p00;" + COLUMN).propsWanted(), 16 + 256);
    due("plaster on two", Halls.of("s0000;s0400;s0530;").propsWanted(), 16 + 32);
    CornerstoneSought x = Halls.of(COLUMN);
    x.propsWanted();
    due("in mind", x.count(2), 0);
  }

  private static void more() {
    CornerstoneSought x = Halls.of("s0000;s0404;s0130;p08;s0270;s0310;s0710;");
    due("beside its load", x.more(0), 14);
    due("itself alone", x.more(4), 20);
    due("plaster", x.more(1), 3);
    due("a mouse", x.more(2), 0);
    due("a corner", x.more(3), 35);
    due("a corner above", x.more(7), 40);
    due("none there", x.more(8), -3);
    due("place -1", x.more(-1), -1);
    due("place 12", x.more(12), -1);
  }

  private static void lean() {
    CornerstoneSought x = new CornerstoneSought();
    due("no stones", x.lean(0), 0);
    due("no stones, column", x.lean(1), 0);
    x = Halls.of("s0000;s0100;s0500;s0305;");
    due("less right", x.lean(0), -1);
    due("the heaviest", x.lean(1), 3);
    x = Halls.of("s0202;s0100;s0500;");
    due("level", x.lean(0), 0);
    due("the least of two", x.lean(1), 1);
    x = Halls.of("s0000;s0400;s0800;s0303;");
    due("all rows", x.lean(0), 1);
    due("what -1", x.lean(-1), 1000000001);
    due("what 2", x.lean(2), 1000000001);
  }
}
