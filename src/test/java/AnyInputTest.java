import java.lang.reflect.InvocationTargetException;
import java.lang.reflect.Method;
import java.lang.reflect.Modifier;
import java.util.Arrays;
import java.util.Comparator;
import java.util.List;
import java.util.Random;

/**
 * Any arguments in any state: no call throws but element as told, a refusal changes nothing, what is
 * asked in mind changes nothing, and the same calls give the same answers.
 */
public final class AnyInputTest {
  private static final Checks CHECKS = new Checks();
  private static final int[] NUMBERS = {
    Integer.MIN_VALUE, -65537, -100, -13, -2, -1, 0, 1, 2, 3, 4, 5, 6, 7, 8, 9, 10, 11, 12, 13, 20,
    21, 50, 51, 99, 100, 101, 115, 255, 65536, Integer.MAX_VALUE - 1, Integer.MAX_VALUE
  };
  private static final List<String> ACTS =
      List.of("hall", "lays", "takes", "props", "restore", "image", "keep", "row", "put", "copy");

  public static void main(String[] args) throws IllegalAccessException {
    Method[] face = face();
    CHECKS.due("methods of the face", face.length, 38);
    for (int seed = 0; seed < 300; seed++) callAny(seed, face);
    CHECKS.end();
  }

  private static Method[] face() {
    return Arrays.stream(CornerstoneSought.class.getDeclaredMethods())
        .filter(m -> Modifier.isPublic(m.getModifiers()))
        .sorted(Comparator.comparing(Method::getName))
        .toArray(Method[]::new);
  }

  private static void callAny(int seed, Method[] face) throws IllegalAccessException {
    Random random = new Random(seed);
    CornerstoneSought x = new CornerstoneSought();
    CornerstoneSought again = new CornerstoneSought();
    for (int i = 0; i < 12; i++) {
      int k = random.nextInt(8);
      int p = random.nextInt(12);
      CHECKS.due("lays", Halls.lay(x, p, k, i % 3), Halls.lay(again, p, k, i % 3));
    }
    for (int i = 0; i < 400; i++) {
      Method method = face[random.nextInt(face.length)];
      Object[] numbers = someNumbers(random, method.getParameterCount());
      String call = "seed " + seed + ": " + method.getName() + Arrays.toString(numbers);
      String ahead = Halls.whole(x);
      long answer = answer(x, method, numbers, call);
      CHECKS.due(call + " again", answer(again, method, numbers, call), answer);
      boolean stays = !ACTS.contains(method.getName()) || answer < 0;
      if (stays && !Halls.whole(x).equals(ahead)) CHECKS.due(call + " changed what it may not", 1, 0);
    }
  }

  private static Object[] someNumbers(Random random, int n) {
    Object[] numbers = new Object[n];
    for (int i = 0; i < n; i++) {
      boolean small = random.nextInt(3) > 0;
      numbers[i] = small ? random.nextInt(12) : NUMBERS[random.nextInt(NUMBERS.length)];
      if (i > 0 && random.nextInt(2) == 0) numbers[i] = random.nextInt(2);
    }
    return numbers;
  }

  private static long answer(CornerstoneSought x, Method method, Object[] numbers, String call)
      throws IllegalAccessException {
    try {
      return ((Number) method.invoke(x, numbers)).longValue();
    } catch (InvocationTargetException e) {
      boolean told = method.getName().equals("element")
          && (e.getCause().getClass() == IllegalArgumentException.class
              || e.getCause().getClass() == IllegalStateException.class);
      if (!told) CHECKS.due(call + " threw " + e.getCause(), 1, 0);
      return -999;
    }
  }
}
