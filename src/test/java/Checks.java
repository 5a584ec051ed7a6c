/** Counts the calls whose answer is not the one that is due, and tells each. */
final class Checks {
  private int wrong = 0;
  private int made = 0;

  void due(String call, long got, long want) {
    made++;
    if (got == want) return;
    wrong++;
    System.out.println(call + " answered " + got + ", due is " + want);
  }

  /** What element throws is told as text: "IAE", "ISE", or the number that it answers. */
  void dueElement(CornerstoneSought x, int d, int i, String want) {
    made++;
    String got = elementTold(x, d, i);
    if (got.equals(want)) return;
    wrong++;
    System.out.println("element(" + d + ", " + i + ") answered " + got + ", due is " + want);
  }

  static String elementTold(CornerstoneSought x, int d, int i) {
    try {
      return String.valueOf(x.element(d, i));
    } catch (IllegalArgumentException e) {
      return "IAE";
    } catch (IllegalStateException e) {
      return "ISE";
    }
  }

  int made() {
    return made;
  }

  void end() {
    System.out.println(made + " answers looked at, " + wrong + " not as due");
    if (wrong != 0) System.exit(1);
  }
}
