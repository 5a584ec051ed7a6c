import java.util.Random;

/** Promises 1 to 32 on halls by seeds: each answer is compared with the plain second hall's. */
public final class ModelTest {
  private static final Checks CHECKS = new Checks();

  public static void main(String[] args) {
    int halls = args.length > 0 ? Integer.parseInt(args[0]) : 260;
    for (int seed = 0; seed < halls; seed++) lookAt(seed);
    for (int seed = 0; seed < 400; seed++) act(seed);
    CHECKS.end();
  }

  /** A hall laid at random, mostly of what stands, with all questions asked of it. */
  private static void lookAt(int seed) {
    Random random = new Random(seed);
    CornerstoneSought x = new CornerstoneSought();
    Model m = new Model();
    if (seed % 4 == 3) buildUp(seed, random, x, m);
    int fullness = 4 + random.nextInt(16);
    for (int i = 0; i < fullness; i++) layOne(seed, random, x, m, i < 4 && seed % 3 != 0);
    int props = random.nextInt(4);
    for (int i = 0; i < props; i++) {
      int p = random.nextInt(12);
      due(seed, "props", x.props(p), m.turnProp(p));
    }
    for (int i = 0; i < 3; i++) layOne(seed, random, x, m, false);
    if (random.nextInt(3) == 0 && m.stones() > 0) {
      int p = m.places().get(random.nextInt(m.stones()));
      due(seed, "takes", x.takes(p), m.take(p));
    }
    askOfStones(seed, x, m);
    askOfHall(seed, x, m);
    askByRows(seed, random, x, m);
    askOfStones(seed, x, m);
  }

  private static void layOne(int seed, Random random, CornerstoneSought x, Model m, boolean low) {
    int p = random.nextInt(low ? 4 : 12);
    int k = random.nextInt(8);
    // light ones more often, so that more of them stand
    int f = random.nextInt(random.nextBoolean() ? 10 : 3);
    if (low && k > 1) k = random.nextInt(2);
    if (m.kind[p] >= 0) return;
    due(seed, "lays " + p, Halls.lay(x, p, k, f), m.lay(p, k, f));
  }

  /** Row upon row, from strong ones to light ones, so that nearly all places are full. */
  private static void buildUp(int seed, Random random, CornerstoneSought x, Model m) {
    int[] strong = {0, 1, 5, 1};
    for (int p = 0; p < 12; p++) {
      if (p > 3 && random.nextInt(8) == 0) continue;
      int k = p < 4 ? strong[random.nextInt(4)] : random.nextInt(8);
      int f = random.nextInt(3);
      due(seed, "lays " + p, Halls.lay(x, p, k, f), m.lay(p, k, f));
    }
  }

  private static void due(int seed, String call, long got, long want) {
    CHECKS.due("hall " + seed + ": " + call, got, want);
  }

  private static void askOfStones(int seed, CornerstoneSought x, Model m) {
    for (int p = 0; p < 12; p++) {
      boolean there = m.kind[p] >= 0;
      for (int what = 0; what <= 5; what++) {
        due(seed, "stone " + p + " " + what, x.stone(p, what), there ? m.stone(p, what) : -3);
      }
      int[] falls = {
        m.fallsWithout(1 << p), there ? m.stepsWithout(p) : 0, m.whichFall(p)
      };
      for (int what = 0; what <= 2; what++) {
        due(seed, "falls " + p + " " + what, x.falls(p, what), there ? falls[what] : -3);
      }
      due(seed, "cut " + p, x.cut(p), there ? m.cut(p) : -3);
      due(seed, "more " + p, x.more(p), there ? m.bears(p) - m.load(p) : -3);
      due(seed, "depends " + p, x.depends(p), there ? m.depends(p) : -3);
    }
    for (int what = 0; what <= 5; what++) due(seed, "count " + what, x.count(what), m.count(what));
  }

  private static void askOfHall(int seed, CornerstoneSought x, Model m) {
    due(seed, "worst", x.worst(), m.worst());
    due(seed, "toGround", x.toGround(), m.toGround());
    due(seed, "propsWanted", x.propsWanted(), m.propsWanted());
    due(seed, "twins", x.twins(), m.twins());
    for (int what = 0; what <= 1; what++) {
      due(seed, "corners " + what, x.corners(what), m.corners(what));
      due(seed, "longest " + what, x.longest(what), m.longest(what));
      due(seed, "game " + what, x.game(what), m.game(what));
      due(seed, "mostLoad " + what, x.mostLoad(what), m.mostLoad(what));
      due(seed, "lean " + what, x.lean(what), m.lean(what));
      due(seed, "highest " + what, x.highest(what), m.highest(what));
      for (int k = 1; k <= 12; k++) {
        due(seed, "together " + k + " " + what, x.together(k, what), m.together(k, what));
      }
      int t = 2 + (seed + what) % 9;
      for (int k = seed % 3; k <= 12; k += 3) {
        due(seed, "bombs " + t + " " + k, x.bombs(t, k, what), m.bombs(t, k, what));
      }
      for (int n = 1; n <= 20; n += 6) {
        int z = seed * 7919 - 1000000 + n;
        due(seed, "raids " + n + " " + z, x.raids(n, z, what), m.raids(n, z, what));
      }
    }
    for (int k = 1; k <= 12; k++) due(seed, "felled " + k, x.felled(k), m.felled(k));
  }

  private static void askByRows(int seed, Random random, CornerstoneSought x, Model m) {
    for (int round = 0; round < 6; round++) {
      int[] heard = heardRow(random, m, round % 3);
      Halls.row(x, 1, round % 3, heard);
      int suspects = m.which(heard);
      due(seed, "which 0", x.which(1, 0), suspects);
      due(seed, "which 1", x.which(1, 1), Integer.bitCount(suspects));
      due(seed, "tapNext", x.tapNext(1), m.tapNext(heard));

      int[] left = leftRow(random, m, random.nextInt(5));
      Halls.row(x, 2, round % 3, left);
      due(seed, "tins 0", x.tins(2, 0), m.tins(left, 0));
      due(seed, "tins 1", x.tins(2, 1), m.tins(left, 1));
      due(seed, "forged", x.forged(2), m.forged(left));

      int[] taken = takenRow(random, m, random.nextInt(8));
      Halls.row(x, 3, round % 3, taken);
      due(seed, "judge", x.judge(3), m.judge(taken));
    }
  }

  /** Notes as they would be heard, one of them wrong now and then. */
  private static int[] heardRow(Random random, Model m, int pairs) {
    int[] row = new int[2 * pairs];
    Model behind = m;
    if (m.stones() > 0) behind = m.without(1 << m.places().get(random.nextInt(m.stones())));
    for (int i = 0; i < row.length; i += 2) {
      row[i] = random.nextInt(12);
      row[i + 1] = random.nextInt(6) == 0 ? random.nextInt(51) : behind.noteOrSilence(row[i]);
    }
    return row;
  }

  private static int[] leftRow(Random random, Model m, int n) {
    int[] row = new int[n];
    Model behind = m;
    for (int i = 0; i < n; i++) {
      if (behind.stones() > 0) {
        behind = behind.without(1 << behind.places().get(random.nextInt(behind.stones())));
      }
      row[i] = random.nextInt(8) == 0 ? random.nextInt(12) : behind.stones();
    }
    return row;
  }

  private static int[] takenRow(Random random, Model m, int n) {
    int[] row = new int[n];
    Model behind = m;
    for (int i = 0; i < n; i++) {
      row[i] = random.nextInt(12);
      for (int p : behind.places()) {
        if (random.nextInt(5) > 0 && behind.fallsWithout(1 << p) == 0) row[i] = p;
      }
      behind = behind.without(1 << row[i]);
    }
    return row;
  }

  /** Acts one behind the other, texts, images and refusals among them. */
  private static void act(int seed) {
    Random random = new Random(100000 + seed);
    CornerstoneSought x = new CornerstoneSought();
    Model m = new Model();
    Model image = null;
    for (int i = 0; i < 40; i++) {
      int p = random.nextInt(12);
      switch (random.nextInt(7)) {
        case 0:
          due(seed, "takes", x.takes(p), m.kind[p] < 0 ? -3 : m.take(p));
          break;
        case 1:
          due(seed, "props", x.props(p), m.turnProp(p));
          break;
        case 2:
          String text = randomText(random);
          due(seed, "hall " + text, Halls.told(x, text), m.tell(text));
          break;
        case 3:
          if (random.nextBoolean()) {
            image = m.copy();
            due(seed, "image", x.image(), m.stones());
          } else {
            if (image != null) m.become(image);
            due(seed, "restore", x.restore(), image == null ? -3 : m.stones());
          }
          break;
        default:
          int k = random.nextInt(8);
          int f = random.nextInt(10);
          due(seed, "lays", Halls.lay(x, p, k, f), m.kind[p] >= 0 ? -2 : m.lay(p, k, f));
      }
      for (int what = 0; what <= 5; what++) due(seed, "count", x.count(what), m.count(what));
      due(seed, "stone", x.stone(p, 5), m.kind[p] >= 0 ? m.note(p) : -3);
      due(seed, "worst", x.worst(), m.worst());
    }
  }

  private static String randomText(Random random) {
    StringBuilder text = new StringBuilder();
    int n = random.nextInt(7);
    for (int i = 0; i < n; i++) {
      String place = String.format("%02d", random.nextInt(random.nextInt(9) == 0 ? 14 : 12));
      int sort = random.nextInt(8);
      if (sort == 0) text.append('x').append(place).append(';');
      else if (sort == 1) text.append('p').append(place).append(';');
      else text.append('s').append(place).append(random.nextInt(random.nextInt(15) == 0 ? 10 : 8))
          .append(random.nextInt(10)).append(';');
    }
    if (text.length() > 0 && random.nextInt(4) == 0) {
      text.setCharAt(random.nextInt(text.length()), "sxp;09 ~/:".charAt(random.nextInt(10)));
    }
    if (text.length() > 0 && random.nextInt(6) == 0) text.setLength(text.length() - 1 - random.nextInt(3));
    return text.toString();
  }
}
