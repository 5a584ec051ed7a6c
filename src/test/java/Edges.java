import java.io.IOException;
import java.nio.file.Files;
import java.nio.file.Path;
import java.util.Set;
import java.util.TreeSet;
import java.util.function.Supplier;

/**
 * Sentences of the document that name a boundary case, each with a test of its own. A sentence is
 * told with its promise and with words that stand so in the document, so that each can be found
 * there; a promise without a sentence, and a test that looks at nothing, fail.
 */
final class Edges {
  static final int LEAST = Integer.MIN_VALUE;
  static final int GREATEST = Integer.MAX_VALUE;
  static final int[] NO_PLACES = {LEAST, -1, 12, GREATEST};
  static final int[] NO_SHELVES = {LEAST, -1, 8, GREATEST};
  /** What is neither 0 nor 1. */
  static final int[] NEITHER = {LEAST, -1, 2, GREATEST};

  /** A call of the face. */
  interface Call {
    long on(CornerstoneSought x);
  }

  /** A call of the face with a number that is tried out. */
  interface CallWith {
    long on(CornerstoneSought x, int number);
  }

  private final Checks checks = new Checks();
  private final String document = document();
  private final Set<Integer> told = new TreeSet<>();
  private String sentence = "";
  private int sentences = 0;

  private static String document() {
    Path path = Path.of("../shared/DOC.md");
    try {
      return oneSpaced(Files.readString(path));
    } catch (IOException e) {
      System.out.println("without the document its words are not looked for: " + e);
      return "";
    }
  }

  private static String oneSpaced(String text) {
    return text.replaceAll("\\s+", " ");
  }

  void test(int promise, String words, Runnable calls) {
    told.add(promise);
    sentences++;
    sentence = "promise " + promise + " \"" + words + "\": ";
    boolean stands = document.isEmpty() || document.contains(oneSpaced(words));
    checks.due(sentence + "words that stand in the document", stands ? 1 : 0, 1);
    int ahead = checks.made();
    try {
      calls.run();
    } catch (RuntimeException e) {
      checks.due(sentence + "threw " + e, 1, 0);
    }
    if (checks.made() == ahead) checks.due(sentence + "looks at nothing", 1, 0);
  }

  void due(String call, long got, long want) {
    checks.due(sentence + call, got, want);
  }

  void dueElement(CornerstoneSought x, int d, int i, String want) {
    due("element " + d + " " + i + " " + want, Checks.elementTold(x, d, i).equals(want) ? 1 : 0, 1);
  }

  /** A call is answered so, and nothing is changed by it. */
  void refused(String call, Supplier<CornerstoneSought> hall, Call made, long want) {
    CornerstoneSought x = hall.get();
    String ahead = Halls.whole(x);
    due(call, made.on(x), want);
    due(call + " changes nothing", Halls.whole(x).equals(ahead) ? 1 : 0, 1);
  }

  /** The same of a call with each of some numbers. */
  void refused(String call, Supplier<CornerstoneSought> hall, CallWith made, int[] numbers, long want) {
    for (int number : numbers) refused(call + " " + number, hall, x -> made.on(x, number), want);
  }

  void end(int firstPromise, int lastPromise) {
    for (int p = firstPromise; p <= lastPromise; p++) {
      checks.due("a sentence of promise " + p, told.contains(p) ? 1 : 0, 1);
    }
    System.out.print(sentences + " sentences: ");
    checks.end();
  }
}
