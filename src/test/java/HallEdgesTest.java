/** Promises 1 to 6: the boundary cases of new halls, texts, stones, layings, takings, props. */
public final class HallEdgesTest {
  private static final Edges EDGES = new Edges();
  private static final String ONE = "s0145;p03;";
  private static final String COLUMN = "s0000;s0400;s0800;";

  public static void main(String[] args) {
    EDGES.test(1, "No STONES, no PROPS.", HallEdgesTest::newHallIsEmpty);
    EDGES.test(1, "each is empty (at first)", HallEdgesTest::eachPlaceIsFreeAtFirst);
    EDGES.test(1, "each has a PROP or not (not at first)", HallEdgesTest::noPlaceIsProppedAtFirst);
    EDGES.test(1, "SHELVES 0 .. 7 each hold nothing (at first)", HallEdgesTest::shelvesAreEmptyAtFirst);
    EDGES.test(1, "A new object", HallEdgesTest::newObjectsShareNothing);
    EDGES.test(1, "An object is used for at most 512 calls", HallEdgesTest::callsTo512);

    EDGES.test(2, "STATEMENTS, each with \";\" behind", HallEdgesTest::statementNeedsItsEnd);
    EDGES.test(2, "one at least", HallEdgesTest::textNeedsOneStatement);
    EDGES.test(2, "(the end, if something lacks): -1000 less the place", HallEdgesTest::lackIsToldAtTheEnd);
    EDGES.test(2, "the place of the first byte with which no HALL can go on", HallEdgesTest::wrongByteIsTold);
    EDGES.test(2, "just as many digits as told", HallEdgesTest::digitsAreCounted);
    EDGES.test(2, "else kind 2", HallEdgesTest::wrongByteGoesAheadOfWrongStatement);
    EDGES.test(2, "the letter of the first STATEMENT that is not as it must be", HallEdgesTest::firstWrongStatementIsTold);
    EDGES.test(2, "a number out of range", HallEdgesTest::numberOutOfRange);
    EDGES.test(2, "laid where there is a STONE", HallEdgesTest::laidOnStone);
    EDGES.test(2, "taken where there is none", HallEdgesTest::takenWhereNoneIs);
    EDGES.test(2, "a PROP, or, if there is one, none", HallEdgesTest::propIsTurnedByText);
    EDGES.test(2, "the hall SETTLES behind each STATEMENT", HallEdgesTest::settlesBehindEachStatement);
    EDGES.test(2, "with one nothing", HallEdgesTest::faultLeavesAll);
    EDGES.test(2, "0 .. 100 elements", HallEdgesTest::longestText);
    EDGES.test(2, "-1, -11, -12 (no ROW of bytes).", HallEdgesTest::textRefused);
    EDGES.test(2, "The ROW of a text, and what is taken from a SHELF, stay there", HallEdgesTest::textStays);

    EDGES.test(3, "Of a STONE: KIND (what 0), FIGURE (1), WEIGHT (2), BEARS (3), LOAD (4), NOTE (5). -1, -3.",
        HallEdgesTest::stoneRefused);
    EDGES.test(3, "with a FIGURE (0 .. 9)", HallEdgesTest::leastAndGreatestFigure);
    EDGES.test(3, "modulo 50", HallEdgesTest::notesWrapAtFifty);
    EDGES.test(3, "of an ARCH that lies on two half, cut, on the left one, the rest on the right one",
        HallEdgesTest::halvesOfArches);
    EDGES.test(3, "one with a PROP lies on none", HallEdgesTest::proppedLoadsNone);
    EDGES.test(3, "of each its WEIGHT and LOAD together", HallEdgesTest::loadsGoDown);

    EDGES.test(4, "how many FALL (itself too). -1, -11, -12 (a ROW), -2.", HallEdgesTest::layingRefused);
    EDGES.test(4, "itself too", HallEdgesTest::laidFallsItself);
    EDGES.test(4, "what is taken from a SHELF, stay there", HallEdgesTest::laidStaysOnShelf);
    EDGES.test(5, "Taken out: how many FALL then. -1, -3.", HallEdgesTest::takingRefused);
    EDGES.test(5, "how many FALL then", HallEdgesTest::takenDoesNotFall);
    EDGES.test(6, "A PROP, or none any more: how many FALL then. -1.", HallEdgesTest::propRefused);
    EDGES.test(6, "or none any more", HallEdgesTest::propIsTurned);
    EDGES.end(1, 6);
  }

  private static void due(String call, long got, long want) {
    EDGES.due(call, got, want);
  }

  // ---- a new object

  private static void newHallIsEmpty() {
    CornerstoneSought x = new CornerstoneSought();
    for (int what = 0; what <= 5; what++) due("count " + what, x.count(what), 0);
    for (int p = 0; p < 12; p++) due("stone " + p, x.stone(p, 0), -3);
  }

  private static void eachPlaceIsFreeAtFirst() {
    for (int p = 0; p < 12; p++) {
      CornerstoneSought x = new CornerstoneSought();
      due("takes " + p, x.takes(p), -3);
      due("lays " + p, Halls.lay(x, p, 0, 0), p < 4 ? 0 : 1);
    }
  }

  private static void noPlaceIsProppedAtFirst() {
    for (int p = 0; p < 12; p++) {
      CornerstoneSought x = new CornerstoneSought();
      x.props(p);
      due("the first prop at " + p, x.count(2), 1 << p);
      due("held by it", Halls.lay(x, p, 0, 0), 0);
    }
  }

  private static void shelvesAreEmptyAtFirst() {
    CornerstoneSought x = new CornerstoneSought();
    for (int d = 0; d < 8; d++) {
      due("cost of " + d, x.cost(d), -11);
      due("toss of " + d, x.toss(d), -11);
      due("put on " + d, x.put(d, 0, 0), -11);
      due("hall of " + d, x.hall(d), -11);
      EDGES.dueElement(x, d, 0, "ISE");
    }
  }

  private static void newObjectsShareNothing() {
    String ahead = Halls.whole(new CornerstoneSought());
    CornerstoneSought x = Halls.of(COLUMN + "p11;");
    for (int d = 0; d < 8; d++) x.keep(d, 1, 1, 9);
    x.image();
    CornerstoneSought y = new CornerstoneSought();
    due("all of a later one", Halls.whole(y).equals(ahead) ? 1 : 0, 1);
    due("its image", y.restore(), -3);
    y.props(0);
    due("the former keeps its own", x.count(2), 1 << 11);
  }

  private static void callsTo512() {
    CornerstoneSought x = new CornerstoneSought();
    for (int p = 0; p < 12; p++) Halls.lay(x, p, p < 4 ? 1 : 0, 0);
    // 24 calls until here; each turn of a prop makes all be thought out anew
    for (int i = 0; i < 243; i++) {
      due("call " + (25 + 2 * i), x.props(8), 0);
      due("call " + (26 + 2 * i), x.bombs(10, 12, 0), 282429536481L);
    }
    due("call 511", x.takes(0), 1);
    due("call 512", x.count(1), 0xfee);
  }

  // ---- texts

  /** A text with a fault: what is told, and that nothing of it comes. */
  private static void fault(String text, int want) {
    CornerstoneSought x = Halls.of(ONE);
    due("'" + text + "'", Halls.told(x, text), want);
    due("stones behind '" + text + "'", x.count(1), 1 << 1);
    due("props behind '" + text + "'", x.count(2), 1 << 3);
    due("kind and figure behind '" + text + "'", 10 * x.stone(1, 0) + x.stone(1, 1), 45);
  }

  private static void statementNeedsItsEnd() {
    fault("s0000", -1005);
    fault("x01", -1003);
    fault("p00", -1003);
    fault("s0000,", -1005);
    fault("x01:", -1003);
    fault("p00<", -1003);
    fault("p00p01;", -1003);
    fault("p00;p01", -1007);
    fault("p00;;", -1004);
  }

  private static void textNeedsOneStatement() {
    fault("", -1000);
    fault(";", -1000);
    due("one", Halls.told(new CornerstoneSought(), "p00;"), 1);
  }

  private static void lackIsToldAtTheEnd() {
    for (String whole : new String[] {"s0000;", "x01;", "p00;"}) {
      for (int n = 1; n < whole.length(); n++) {
        fault(whole.substring(0, n), -1000 - n);
        fault("p00;" + whole.substring(0, n), -1004 - n);
      }
    }
  }

  private static void wrongByteIsTold() {
    for (char letter : "rtwyoqSXP0 /;".toCharArray()) {
      fault(letter + "0000;", -1000);
      fault("x01;" + letter + "00;", -1004);
    }
    for (String whole : new String[] {"s0000;", "x01;", "p00;"}) {
      for (int i = 1; i < whole.length(); i++) {
        for (char wrong : new char[] {'/', ':', 's', 'a', ' ', 0, 127}) {
          fault(whole.substring(0, i) + wrong + whole.substring(i + 1), -1000 - i);
        }
      }
    }
    CornerstoneSought x = new CornerstoneSought();
    Halls.row(x, 0, 0, 'p', '0', -'0', ';');
    due("a byte below 0", x.hall(0), -1002);
    Halls.row(x, 0, 0, -1, '0', '0', ';');
    due("a letter of -1", x.hall(0), -1000);
    Halls.row(x, 0, 0, 'p', '0', '0', -1);
    due("an end of -1", x.hall(0), -1003);
  }

  private static void digitsAreCounted() {
    fault("s000;", -1004);
    fault("s00000;", -1005);
    fault("s0;", -1002);
    fault("x1;", -1002);
    fault("x001;", -1003);
    fault("p1;", -1002);
    fault("p001;", -1003);
    fault("x-1;", -1001);
  }

  private static void wrongByteGoesAheadOfWrongStatement() {
    fault("x00;q", -1004);
    fault("s9999;p99;x99", -1013);
    fault("s0145;p00;p0;", -1012);
  }

  private static void firstWrongStatementIsTold() {
    fault("x00;x00;", -2000);
    fault("p00;x00;p12;", -2004);
    fault("s0000;p04;s0190;s0180;", -2010);
    fault("p00;p01;p02;x01;x01;", -2016);
  }

  private static void numberOutOfRange() {
    for (String place : new String[] {"12", "13", "20", "99"}) {
      fault("s" + place + "00;", -2000);
      fault("x" + place + ";", -2000);
      fault("p" + place + ";", -2000);
    }
    fault("s0080;", -2000);
    fault("s0099;", -2000);
    for (int p = 0; p < 12; p++) {
      String place = "" + (char) ('0' + p / 10) + (char) ('0' + p % 10);
      String text = "p" + place + ";s" + place + "79;x" + place + ";";
      due(text, Halls.told(new CornerstoneSought(), text), 3);
    }
    for (int k = 0; k < 8; k++) {
      CornerstoneSought x = Halls.of("s00" + k + "9;");
      due("kind " + k, x.stone(0, 0), k);
      due("figure 9", x.stone(0, 1), 9);
    }
  }

  private static void laidOnStone() {
    fault("s0145;", -2000);
    fault("s0000;s0000;", -2006);
    due("where one fell", Halls.told(new CornerstoneSought(), "s0400;s0400;"), 2);
    due("where one was taken", Halls.told(Halls.of(ONE), "x01;s0100;"), 2);
  }

  private static void takenWhereNoneIs() {
    fault("x00;", -2000);
    fault("x01;x01;", -2004);
    fault("s0400;x04;", -2006);
    due("where one is", Halls.told(Halls.of(ONE), "x01;"), 1);
    due("where one is laid", Halls.told(Halls.of(ONE), "s0000;x00;"), 2);
  }

  private static void propIsTurnedByText() {
    due("one", Halls.of("p11;").count(2), 1 << 11);
    due("none", Halls.of("p11;p11;").count(2), 0);
    due("one again", Halls.of("p11;p11;p11;").count(2), 1 << 11);
    due("the one that was there", Halls.of("p04;s0400;p04;").count(1), 0);
  }

  private static void settlesBehindEachStatement() {
    due("it falls ahead of what would hold it", Halls.of("s0400;s0000;").count(1), 1);
    due("a prop comes too late", Halls.of("s0400;p04;").count(1), 0);
    due("it falls ahead of the prop's return", Halls.of("p04;s0400;p04;p04;").count(1), 0);
    due("overloaded ahead of the taking", Halls.of("s0030;s0402;").count(1), 0);
  }

  private static void faultLeavesAll() {
    fault("x01;s0107;p03;p05;x00;", -2018);
    fault("x01;s0100;s0500;s0900;x12;", -2022);
    fault("s0000;s0404;p00;p04;p08;p00;s0089;", -2028);
    CornerstoneSought x = Halls.of("s0030;s0401;p11;");
    due("all fell ahead of the fault", Halls.told(x, "s0809;p11;x08;"), -2010);
    due("they are there", x.count(1), 17);
    due("the prop is there", x.count(2), 1 << 11);
    due("as heavy", x.count(3), 4);
    due("as laden", x.count(4), 3);
    due("plaster and what it hangs on", Halls.told(x, "p04;x04;s0430;x11;"), -2014);
    due("it hangs on it yet", Halls.lay(x, 5, 3, 0), 0);
    x.takes(5);
    x.image();
    Halls.told(x, "x00;x00;");
    x.takes(0);
    due("the image stays", x.restore(), 2);
  }

  private static String manyProps(int statements) {
    StringBuilder text = new StringBuilder();
    for (int i = 0; i < statements; i++) text.append("p0").append(i % 10).append(';');
    return text.toString();
  }

  private static void longestText() {
    due("a full row", Halls.told(new CornerstoneSought(), manyProps(25)), 25);
    fault(manyProps(24) + "p00:", -1099);
    fault(manyProps(24) + "s000", -1100);
    fault(manyProps(24) + "x00;", -2096);
    fault(manyProps(24) + "p12;", -2096);
    CornerstoneSought x = Halls.of(manyProps(25));
    due("props by it", x.count(2), 0x1f);
  }

  private static CornerstoneSought withShelves() {
    CornerstoneSought x = Halls.of(ONE);
    x.keep(0, 1, 0, 1);
    Halls.row(x, 1, 1, 'p', '0', '0', ';');
    Halls.row(x, 2, 2, 'p', '0', '0', ';');
    Halls.row(x, 3, 0, 'p', '0', '0', ';');
    return x;
  }

  private static void textRefused() {
    EDGES.refused("shelf", HallEdgesTest::withShelves, (x, d) -> x.hall(d), Edges.NO_SHELVES, -1);
    EDGES.refused("nothing", HallEdgesTest::withShelves, x -> x.hall(4), -11);
    EDGES.refused("a kind", HallEdgesTest::withShelves, x -> x.hall(0), -12);
    EDGES.refused("shorts", HallEdgesTest::withShelves, x -> x.hall(1), -12);
    EDGES.refused("ints", HallEdgesTest::withShelves, x -> x.hall(2), -12);
    due("bytes", withShelves().hall(3), 1);
    for (int d = 0; d < 8; d += 7) {
      CornerstoneSought x = new CornerstoneSought();
      Halls.row(x, d, 0, 'p', '0', '0', ';');
      due("shelf " + d, x.hall(d), 1);
    }
  }

  private static void textStays() {
    CornerstoneSought x = Halls.of("p00;");
    due("once more", x.hall(Halls.TEXT), 1);
    for (int i = 0; i < 4; i++) EDGES.dueElement(x, Halls.TEXT, i, "" + (int) "p00;".charAt(i));
    due("the prop by both", x.count(2), 0);
    Halls.told(x, "x00;");
    due("behind a fault", x.hall(Halls.TEXT), -2000);
  }

  // ---- one stone

  private static void stoneRefused() {
    EDGES.refused("place", () -> Halls.of(ONE), (x, p) -> x.stone(p, 0), Edges.NO_PLACES, -1);
    int[] noWhats = {Edges.LEAST, -1, 6, Edges.GREATEST};
    EDGES.refused("what", () -> Halls.of(ONE), (x, what) -> x.stone(1, what), noWhats, -1);
    EDGES.refused("what ahead of none", () -> Halls.of(ONE), (x, what) -> x.stone(0, what), noWhats, -1);
    for (int what = 0; what <= 5; what++) {
      int asked = what;
      EDGES.refused("none there", () -> Halls.of(ONE), x -> x.stone(0, asked), -3);
      EDGES.refused("none at 11", () -> Halls.of(ONE), x -> x.stone(11, asked), -3);
    }
    due("place 0", Halls.of("s0060;").stone(0, 0), 6);
    due("place 11", Halls.of("p11;s1160;").stone(11, 0), 6);
    due("the prop alone is no stone", Halls.of("p05;").stone(5, 0), -3);
  }

  private static void leastAndGreatestFigure() {
    int[][] weights = {{2, 11}, {5, 14}, {1, 10}, {1, 1}, {1, 19}, {5, 14}, {2, 20}, {0, 0}};
    int[][] bears = {{20, 20}, {40, 40}, {12, 12}, {3, 3}, {12, 21}, {40, 31}, {6, 6}, {0, 0}};
    for (int k = 0; k < 8; k++) {
      for (int f = 0; f <= 1; f++) {
        CornerstoneSought x = Halls.of("s00" + k + 9 * f + ";");
        due("figure of kind " + k, x.stone(0, 1), 9 * f);
        due("weight of kind " + k + " figure " + 9 * f, x.stone(0, 2), weights[k][f]);
        due("bears of kind " + k + " figure " + 9 * f, x.stone(0, 3), bears[k][f]);
      }
    }
  }

  private static void notesWrapAtFifty() {
    due("7 times 7 is 49", Halls.of("s0005;").stone(0, 5), 49);
    due("35 and 15 are 50", Halls.of("s0003;s0403;").stone(0, 5), 0);
    due("21 and 30 are 51", Halls.of("s0001;s0408;").stone(0, 5), 1);
    due("63 and 36 are 99", Halls.of("s0007;s0409;s0830;").stone(0, 5), 49);
    due("70 and 30 are 100", Halls.of("s0008;s0408;").stone(0, 5), 0);
    due("of a mouse without a load", Halls.of("s0070;").stone(0, 5), 0);
    due("133 of the heaviest key", Halls.of("s0049;").stone(0, 5), 33);
    due("140 of the heaviest beam", Halls.of("s0069;").stone(0, 5), 40);
  }

  private static void halvesOfArches() {
    for (int f = 0; f <= 9; f++) {
      CornerstoneSought x = Halls.of("s0000;s0200;s052" + f + ";");
      due("left of an arch " + f, x.stone(0, 4), (1 + f) / 2);
      due("right of an arch " + f, x.stone(2, 4), 1 + f - (1 + f) / 2);
      x = Halls.of("s0000;s0200;s054" + f + ";");
      due("left of a key " + f, x.stone(0, 4), (1 + 2 * f) / 2);
      due("right of a key " + f, x.stone(2, 4), 1 + 2 * f - (1 + 2 * f) / 2);
    }
    CornerstoneSought x = Halls.of("s0000;s0200;s0520;s0900;");
    due("left, with what lies on it", x.stone(0, 4), 1);
    due("right, with what lies on it", x.stone(2, 4), 2);
    x = Halls.of("s0000;s0100;s0200;s0529;");
    due("none to the left if it lies on one", x.stone(0, 4), 0);
    due("none to the right", x.stone(2, 4), 0);
    due("all on the one below", x.stone(1, 4), 10);
    x = Halls.of("s0000;s0200;s0561;");
    due("a beam is not halved", x.stone(0, 4), 4);
    due("nor its rest", x.stone(2, 4), 0);
  }

  private static void proppedLoadsNone() {
    String column = "s0010;s0409;s0809;";
    due("without a prop", Halls.of(column).stone(0, 4), 22);
    CornerstoneSought x = Halls.of(column + "p04;");
    due("below the prop", x.stone(0, 4), 0);
    due("above the prop", x.stone(4, 4), 11);
    x = Halls.of(column + "p08;");
    due("the lowest", x.stone(0, 4), 11);
    due("below the highest", x.stone(4, 4), 0);
    due("a prop in row 0 is no matter", Halls.of(column + "p00;").stone(0, 4), 22);
    for (String kind : new String[] {"29", "49", "69"}) {
      x = Halls.of("s0000;s0200;s05" + kind + ";p05;");
      due("on two, to the left, " + kind, x.stone(0, 4), 0);
      due("on two, to the right, " + kind, x.stone(2, 4), 0);
    }
  }

  private static void loadsGoDown() {
    CornerstoneSought x = Halls.of("s0010;s0409;s0809;");
    due("two above", x.stone(0, 4), 22);
    due("one above", x.stone(4, 4), 11);
    due("none above", x.stone(8, 4), 0);
    x = Halls.of("s0000;s0200;s0100;s0400;s0600;s0961;");
    due("a beam's weight on the left one", x.stone(4, 4), 4);
    due("and down from it", x.stone(0, 4), 2 + 4);
    due("and not on the right", x.stone(2, 4), 2);
  }

  // ---- laying, taking, props

  private static CornerstoneSought readyToLay() {
    CornerstoneSought x = Halls.of(ONE);
    x.keep(0, 1, 0, 0);
    x.row(1, 0, 2);
    return x;
  }

  private static void layingRefused() {
    EDGES.refused("place", HallEdgesTest::readyToLay, (x, p) -> x.lays(0, p), Edges.NO_PLACES, -1);
    EDGES.refused("shelf", HallEdgesTest::readyToLay, (x, d) -> x.lays(d, 0), Edges.NO_SHELVES, -1);
    EDGES.refused("nothing", HallEdgesTest::readyToLay, x -> x.lays(2, 0), -11);
    EDGES.refused("a row", HallEdgesTest::readyToLay, x -> x.lays(1, 0), -12);
    EDGES.refused("a stone there", HallEdgesTest::readyToLay, x -> x.lays(0, 1), -2);
    EDGES.refused("no place, nothing", HallEdgesTest::readyToLay, x -> x.lays(2, 12), -1);
    EDGES.refused("no place, a row", HallEdgesTest::readyToLay, x -> x.lays(1, -1), -1);
    EDGES.refused("no shelf, a stone there", HallEdgesTest::readyToLay, x -> x.lays(8, 1), -1);
    EDGES.refused("nothing, a stone there", HallEdgesTest::readyToLay, x -> x.lays(2, 1), -11);
    EDGES.refused("a row, a stone there", HallEdgesTest::readyToLay, x -> x.lays(1, 1), -12);
    for (int d = 0; d < 8; d += 7) {
      CornerstoneSought x = new CornerstoneSought();
      x.keep(d, 1, 5, 3);
      due("from shelf " + d, x.lays(d, 0), 0);
      due("it is there", x.stone(0, 0), 5);
      x.props(11);
      due("at place 11", x.lays(d, 11), 0);
    }
  }

  private static void laidFallsItself() {
    due("itself alone", Halls.lay(new CornerstoneSought(), 4, 0, 0), 1);
    due("itself with what it lies on", Halls.lay(Halls.of("s0030;"), 4, 0, 2), 2);
    due("none", Halls.lay(Halls.of("s0030;"), 4, 0, 1), 0);
    CornerstoneSought x = Halls.of(COLUMN);
    Halls.lay(x, 9, 0, 0);
    due("it is not there then", x.count(1), 273);
  }

  private static void laidStaysOnShelf() {
    CornerstoneSought x = new CornerstoneSought();
    x.keep(3, 1, 1, 4);
    due("laid", x.lays(3, 0), 0);
    due("it is on the shelf", x.cost(3), 6);
    due("laid once more", x.lays(3, 1), 0);
    x.takes(0);
    due("when the first is out", x.cost(3), 6);
    x.keep(3, 0, 0, 0);
    due("what is laid stays when the shelf has nothing", x.stone(1, 1), 4);
  }

  private static void takingRefused() {
    EDGES.refused("place", () -> Halls.of(ONE), (x, p) -> x.takes(p), Edges.NO_PLACES, -1);
    int[] empty = {0, 2, 3, 5, 11};
    EDGES.refused("none at", () -> Halls.of(ONE), (x, p) -> x.takes(p), empty, -3);
    CornerstoneSought x = Halls.of("s0000;p11;s1100;");
    due("place 0", x.takes(0), 0);
    due("place 11", x.takes(11), 0);
    due("0 is empty then", x.takes(0), -3);
    due("the prop stays", x.count(2), 1 << 11);
  }

  private static void takenDoesNotFall() {
    due("the top one", Halls.of(COLUMN).takes(8), 0);
    due("one on it", Halls.of(COLUMN).takes(4), 1);
    due("two on it", Halls.of(COLUMN).takes(0), 2);
    due("the only one", Halls.of("s0000;").takes(0), 0);
  }

  private static void propRefused() {
    EDGES.refused("place", () -> Halls.of(ONE), (x, p) -> x.props(p), Edges.NO_PLACES, -1);
    for (int p = 0; p < 12; p++) due("place " + p, new CornerstoneSought().props(p), 0);
  }

  private static void propIsTurned() {
    for (int p = 0; p < 12; p++) {
      CornerstoneSought x = new CornerstoneSought();
      x.props(p);
      due("a prop at " + p, x.count(2), 1 << p);
      Halls.lay(x, p, 0, 0);
      due("none any more at " + p, x.props(p), p < 4 ? 0 : 1);
      due("no prop at " + p, x.count(2), 0);
      due("the stone", x.count(1), p < 4 ? 1 << p : 0);
    }
    due("a prop lets none fall", Halls.of(COLUMN).props(4), 0);
    CornerstoneSought x = Halls.of(COLUMN + "p04;");
    due("nor its going, if one is below", x.props(4), 0);
  }
}
