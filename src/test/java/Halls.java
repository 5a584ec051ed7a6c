/** Makes halls and rows for the tests by the calls of the face alone. */
final class Halls {
  /** The shelf that texts are put on here. */
  static final int TEXT = 7;

  private Halls() {}

  /** A new object whose hall is as a text of at most 100 bytes tells. */
  static CornerstoneSought of(String text) {
    CornerstoneSought x = new CornerstoneSought();
    int answer = told(x, text);
    if (answer < 0) throw new IllegalStateException(text + " was refused: " + answer);
    return x;
  }

  static int told(CornerstoneSought x, String text) {
    x.row(TEXT, 0, text.length());
    for (int i = 0; i < text.length(); i++) x.put(TEXT, i, text.charAt(i));
    return x.hall(TEXT);
  }

  /** Puts a row of a sort on a shelf. */
  static void row(CornerstoneSought x, int d, int sort, int... elements) {
    x.row(d, sort, elements.length);
    for (int i = 0; i < elements.length; i++) x.put(d, i, elements[i]);
  }

  /** Lays one by way of a shelf. */
  static int lay(CornerstoneSought x, int p, int kind, int figure) {
    x.keep(TEXT, 1, kind, figure);
    return x.lays(TEXT, p);
  }

  /** All that can be told of an object but its image. */
  static String whole(CornerstoneSought x) {
    StringBuilder all = new StringBuilder();
    for (int what = 0; what <= 5; what++) all.append(x.count(what)).append(' ');
    for (int p = 0; p < 12; p++) {
      all.append(x.stone(p, 0)).append(',').append(x.stone(p, 1)).append(' ');
    }
    for (int d = 0; d < 8; d++) {
      all.append(x.cost(d)).append(x.toss(d)).append(':');
      for (int i = 0; i < 100; i++) {
        String element = Checks.elementTold(x, d, i);
        if (element.equals("ISE")) break;
        all.append(element).append(',');
      }
    }
    return all.toString();
  }
}
