/** Promises 1 to 6: the hall as told. */
public final class HallTest {
  private static final Checks CHECKS = new Checks();

  public static void main(String[] args) {
    newObject();
    texts();
    faultsOfBytes();
    faultsOfStatements();
    refusedTexts();
    kinds();
    loads();
    held();
    lays();
    takes();
    props();
    CHECKS.end();
  }

  private static void due(String call, long got, long want) {
    CHECKS.due(call, got, want);
  }

  private static void newObject() {
    CornerstoneSought x = new CornerstoneSought();
    for (int what = 0; what <= 5; what++) due("new: count " + what, x.count(what), 0);
    for (int p = 0; p < 12; p++) due("new: stone " + p, x.stone(p, 0), -3);
    for (int d = 0; d < 8; d++) due("new: cost " + d, x.cost(d), -11);
    due("new: restore", x.restore(), -3);
  }

  private static void texts() {
    CornerstoneSought x = new CornerstoneSought();
    due("three statements", Halls.told(x, "s0013;p04;s0452;"), 3);
    due("stones", x.count(1), 17);
    due("props", x.count(2), 16);
    due("a text goes on with what is there", Halls.told(x, "p04;x00;"), 2);
    due("all fell", x.count(1), 0);
    due("prop taken away", x.count(2), 0);
    due("settled behind each statement", Halls.told(x, "s0400;s0400;s0000;s0400;"), 4);
    due("one on the other", x.count(1), 17);
    due("most statements", Halls.told(x, "p00;p01;p02;p03;p04;p05;p06;p07;p08;p09;p10;p11;"
        + "p00;p01;p02;p03;p04;p05;p06;p07;p08;p09;p10;p11;p00;"), 25);
    due("props of it", x.count(2), 1);
    due("element of the text stays", x.element(Halls.TEXT, 0), 'p');
  }

  private static void faultsOfBytes() {
    String[] texts = {
      "", "s", "s0", "s00", "s000", "s0000", "x", "x0", "x00", "p00", ";", "S0000;", "q", "0",
      "sx", "s0/", "s00:", "s000a", "s0000x", "x0;", "x00,", "s0000;;", "s0000; ", "s0000;s",
      "x00;s0000;p0", "s0000;s00000", "s1200;s", "p99;!", "s-100;", "\u0000", "s0000;x00;p00;y"
    };
    int[] places = {
      0, 1, 2, 3, 4, 5, 1, 2, 3, 3, 0, 0, 0, 0,
      1, 2, 3, 4, 5, 2, 3, 6, 6, 7,
      12, 11, 7, 4, 1, 0, 14
    };
    for (int i = 0; i < texts.length; i++) {
      CornerstoneSought x = Halls.of("s0145;p03;");
      due("'" + texts[i] + "'", Halls.told(x, texts[i]), -1000 - places[i]);
      due("nothing of '" + texts[i] + "'", x.count(1) * 100 + x.count(2), 208);
    }
    CornerstoneSought x = new CornerstoneSought();
    Halls.row(x, 0, 0, 's', '0' - 256, '0', '0', '0', ';');
    due("lowest bits make a digit", x.hall(0), 1);
    Halls.row(x, 0, 0, 's', '0', '0', '0', -1, ';');
    due("a byte below 0", x.hall(0), -1004);
  }

  private static void faultsOfStatements() {
    String[] texts = {
      "s1200;", "s9900;", "s0080;", "s0190;", "x12;", "p12;", "p99;", "x00;", "s0100;",
      "s0000;s0000;", "s0000;x00;x00;", "p00;s0000;s0009;p12;", "x01;x01;", "s0000;p00;s0080;",
      "s0409;x04;"
    };
    int[] places = {0, 0, 0, 0, 0, 0, 0, 0, 0, 6, 10, 10, 4, 10, 6};
    for (int i = 0; i < texts.length; i++) {
      CornerstoneSought x = Halls.of("s0145;p03;");
      due(texts[i], Halls.told(x, texts[i]), -2000 - places[i]);
      due("nothing of " + texts[i], x.count(1) * 100 + x.count(2), 208);
      due("kind as before " + texts[i], x.stone(1, 0) * 10 + x.stone(1, 1), 45);
    }
    CornerstoneSought x = Halls.of("s0145;p03;");
    due("taken and laid anew, then a fault", Halls.told(x, "x01;s0107;x02;"), -2010);
    due("the old one is there", x.stone(1, 0) * 10 + x.stone(1, 1), 45);
    due("weight as before", x.stone(1, 2), 11);
  }

  private static void refusedTexts() {
    CornerstoneSought x = new CornerstoneSought();
    due("shelf -1", x.hall(-1), -1);
    due("shelf 8", x.hall(8), -1);
    due("nothing held", x.hall(0), -11);
    x.keep(0, 1, 0, 1);
    due("a kind", x.hall(0), -12);
    Halls.row(x, 0, 1, 'p', '0', '0', ';');
    due("shorts", x.hall(0), -12);
    Halls.row(x, 0, 2, 'p', '0', '0', ';');
    due("ints", x.hall(0), -12);
    Halls.row(x, 0, 0, 'p', '0', '0', ';');
    due("bytes", x.hall(0), 1);
  }

  private static void kinds() {
    int[][] weights = {{2, 11}, {5, 14}, {1, 10}, {1, 1}, {1, 19}, {5, 14}, {2, 20}, {0, 0}};
    int[][] bears = {{20, 20}, {40, 40}, {12, 12}, {3, 3}, {12, 21}, {40, 31}, {6, 6}, {0, 0}};
    for (int k = 0; k < 8; k++) {
      for (int f = 0; f <= 9; f += 9) {
        CornerstoneSought x = Halls.of("s03" + k + f + ";");
        String one = "kind " + k + " figure " + f;
        due(one + " kind", x.stone(3, 0), k);
        due(one + " figure", x.stone(3, 1), f);
        due(one + " weight", x.stone(3, 2), weights[k][f / 9]);
        due(one + " bears", x.stone(3, 3), bears[k][f / 9]);
        due(one + " load", x.stone(3, 4), 0);
        due(one + " note", x.stone(3, 5), 7 * weights[k][f / 9] % 50);
      }
    }
    CornerstoneSought x = Halls.of("s0000;");
    due("place -1", x.stone(-1, 0), -1);
    due("place 12", x.stone(12, 0), -1);
    due("what -1", x.stone(0, -1), -1);
    due("what 6", x.stone(0, 6), -1);
    due("what 6 where none is", x.stone(1, 6), -1);
    due("none there", x.stone(1, 5), -3);
  }

  private static void loads() {
    CornerstoneSought x = Halls.of("s0000;s0404;s0800;");
    due("two above", x.stone(0, 4), 8);
    due("its note", x.stone(0, 5), 38);
    due("one above", x.stone(4, 4), 2);
    due("note modulo 50", x.stone(4, 5), 48);
    x = Halls.of("s0000;s0200;s0524;s0900;");
    due("an arch's half, cut, left", x.stone(0, 4), 3);
    due("the rest right", x.stone(2, 4), 4);
    x = Halls.of("s0000;s0200;s0543;");
    due("a key's half, cut, left", x.stone(0, 4), 3);
    due("a key's rest right", x.stone(2, 4), 4);
    x = Halls.of("s0000;s0200;s0562;");
    due("a beam on the left one", x.stone(0, 4), 6);
    due("not on the right one", x.stone(2, 4), 0);
    x = Halls.of("s0200;s0562;");
    due("a beam on the right one", x.stone(2, 4), 6);
    x = Halls.of("s0100;s0524;");
    due("an arch lies on the one below", x.stone(1, 4), 5);
    x = Halls.of("s0000;s0100;s0200;s0524;");
    due("an arch lies on the one below alone", x.stone(0, 4) * 100 + x.stone(1, 4), 5);
    x = Halls.of("s0000;s0400;s0530;");
    due("plaster lies on none", x.count(4), 2);
    x = Halls.of("s0000;s0400;s0100;s0530;");
    due("plaster lies on what is below", x.stone(1, 4), 1);
    x = Halls.of("s0000;p04;s0405;s0800;");
    due("one with a prop lies on none", x.stone(0, 4), 0);
    due("but bears", x.stone(4, 4), 2);
  }

  private static void held() {
    String ground = "s0000;s0200;";
    for (int k = 0; k < 8; k++) {
      boolean lies = k == 2 || k == 4 || k == 6;
      due("between two, kind " + k, fallsLaid(ground, 5, k), lies ? 0 : 1);
      due("beside the left, kind " + k, fallsLaid("s0000;", 5, k), k == 6 ? 0 : 1);
      due("beside the right, kind " + k, fallsLaid("s0200;", 5, k), k == 6 ? 0 : 1);
      due("above nothing, kind " + k, fallsLaid("s0300;", 5, k), 1);
      boolean sticks = k == 3 || k == 7;
      due("right of one, kind " + k, fallsLaid("s0000;s0400;", 5, k), sticks || k == 6 ? 0 : 1);
      due("left of one, kind " + k, fallsLaid("s0200;s0600;", 5, k), sticks || k == 6 ? 0 : 1);
      due("with a prop, kind " + k, fallsLaid("p05;", 5, k), 0);
      due("two above a gap, kind " + k, fallsLaid("s0100;", 9, k), 1);
      due("no row goes on at its end, kind " + k, fallsLaid("s0300;s0200;", 4, k), 1);
      due("nor at its start, kind " + k, fallsLaid("s0000;s0800;", 7, k), 1);
    }
    due("plaster by plaster", fallsLaid("s0000;s0430;", 5, 3), 1);
    due("mouse by plaster", fallsLaid("s0000;s0430;", 5, 7), 1);
    due("plaster by mouse", fallsLaid("s0200;s0670;", 5, 3), 1);
    due("plaster between plaster and stone", fallsLaid("s0000;s0430;s0200;s0600;", 5, 3), 0);
  }

  private static int fallsLaid(String text, int p, int k) {
    return Halls.lay(Halls.of(text), p, k, 0);
  }

  private static void lays() {
    CornerstoneSought x = Halls.of("s0030;");
    due("plaster bears 3", Halls.lay(x, 4, 0, 1), 0);
    due("and not 4", Halls.lay(x, 8, 3, 0), 3);
    due("all gone", x.count(0), 0);
    due("a mouse on a mouse", Halls.lay(Halls.of("s0070;"), 4, 7, 9), 0);
    due("plaster on a mouse", Halls.lay(Halls.of("s0070;"), 4, 3, 0), 2);
    due("a corner bears 40", Halls.lay(Halls.of("s0010;s0419;s0819;x08;"), 8, 1, 9), 0);
    due("in row 0", Halls.lay(x, 3, 4, 9), 0);
    due("place -1", Halls.lay(x, -1, 0, 0), -1);
    due("place 12", Halls.lay(x, 12, 0, 0), -1);
    due("shelf -1", x.lays(-1, 0), -1);
    due("shelf 8", x.lays(8, 0), -1);
    due("place ahead of nothing held", x.lays(0, 12), -1);
    due("nothing held", x.lays(0, 3), -11);
    x.row(0, 0, 2);
    due("a row", x.lays(0, 3), -12);
    due("a stone is there", Halls.lay(x, 3, 0, 0), -2);
    due("as it was", x.stone(3, 0), 4);
    due("it stays on the shelf", x.lays(Halls.TEXT, 2), 0);
    due("and there", x.stone(2, 0), 0);
  }

  private static void takes() {
    CornerstoneSought x = Halls.of("s0000;s0400;s0800;s0100;");
    due("the top one", x.takes(8), 0);
    due("one below one", x.takes(0), 1);
    due("left", x.count(1), 2);
    due("none there", x.takes(0), -3);
    due("place -1", x.takes(-1), -1);
    due("place 12", x.takes(12), -1);
    due("the last", x.takes(1), 0);
    x = Halls.of("s0009;s0230;s0561;");
    due("a beam comes down on plaster", x.takes(0), 2);
  }

  private static void props() {
    CornerstoneSought x = new CornerstoneSought();
    due("a prop at an empty place", x.props(9), 0);
    due("it is there", x.count(2), 512);
    due("one on it", Halls.lay(x, 9, 0, 9), 0);
    due("a beam by it falls", Halls.lay(x, 10, 6, 0), 1);
    due("plaster beside it stands", Halls.lay(x, 10, 3, 0), 0);
    due("none any more", x.props(9), 2);
    due("no props", x.count(2), 0);
    due("no stones", x.count(1), 0);
    due("place -1", x.props(-1), -1);
    due("place 12", x.props(12), -1);
    x = Halls.of("s0030;p04;s0409;");
    due("a prop away lets its weight come down", x.props(4), 2);
    x = Halls.of("p00;s0030;");
    due("a prop does not help to bear", Halls.lay(x, 4, 0, 2), 2);
  }
}
