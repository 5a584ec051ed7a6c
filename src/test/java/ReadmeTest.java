import java.io.IOException;
import java.lang.reflect.InvocationTargetException;
import java.lang.reflect.Method;
import java.lang.reflect.Modifier;
import java.nio.file.Files;
import java.nio.file.Path;
import java.util.List;
import java.util.regex.Matcher;
import java.util.regex.Pattern;
import java.util.stream.Collectors;
import java.util.stream.Stream;

/** README.md: each example answers as its comment begins, each call and each test is told. */
public final class ReadmeTest {
  private static final Checks CHECKS = new Checks();
  private static final String NEW = "CornerstoneSought x = new CornerstoneSought();";
  private static final Pattern EXAMPLE =
      Pattern.compile("x\\.(\\w+)\\((.*)\\); *// (-?\\d+|Illegal\\w+Exception)\\b.*");

  public static void main(String[] args) throws IOException, IllegalAccessException {
    String readme = Files.readString(Path.of("README.md"));
    runExamples(readme);
    allCallsAreTold(readme);
    allTestsAreTold(readme);
    CHECKS.end();
  }

  private static void runExamples(String readme) throws IllegalAccessException {
    Matcher block = Pattern.compile("(?s)```java\n(.*?)```").matcher(readme);
    int blocks = 0;
    while (block.find()) {
      blocks++;
      runExample(block.group(1).split("\n"));
    }
    CHECKS.due("README.md has examples", blocks > 0 ? 1 : 0, 1);
  }

  private static void runExample(String[] lines) throws IllegalAccessException {
    CHECKS.due("an example begins with a new object", lines[0].equals(NEW) ? 1 : 0, 1);
    CornerstoneSought x = new CornerstoneSought();
    for (int i = 1; i < lines.length; i++) {
      Matcher example = EXAMPLE.matcher(lines[i]);
      boolean told = example.matches();
      CHECKS.due("an answer is told: " + lines[i], told ? 1 : 0, 1);
      if (!told) continue;
      String got = answer(x, example.group(1), numbers(example.group(2)));
      boolean asTold = got.equals(example.group(3));
      CHECKS.due(lines[i] + " [answered " + got + "]", asTold ? 1 : 0, 1);
    }
  }

  private static Object[] numbers(String told) {
    if (told.isBlank()) return new Object[0];
    return Stream.of(told.split(", "))
        .map(n -> n.startsWith("'") ? (int) n.charAt(1) : Integer.parseInt(n))
        .toArray();
  }

  private static String answer(CornerstoneSought x, String name, Object[] numbers)
      throws IllegalAccessException {
    for (Method call : face()) {
      if (!call.getName().equals(name) || call.getParameterCount() != numbers.length) continue;
      try {
        return String.valueOf(call.invoke(x, numbers));
      } catch (InvocationTargetException e) {
        return e.getCause().getClass().getSimpleName();
      }
    }
    return "no such call";
  }

  private static List<Method> face() {
    return Stream.of(CornerstoneSought.class.getDeclaredMethods())
        .filter(m -> Modifier.isPublic(m.getModifiers()))
        .collect(Collectors.toList());
  }

  private static void allCallsAreTold(String readme) {
    for (Method call : face()) {
      Matcher row = Pattern.compile("\\| `" + call.getName() + "\\((.*?)\\)` \\|").matcher(readme);
      boolean told = row.find();
      CHECKS.due(call.getName() + " is told", told ? 1 : 0, 1);
      if (!told) continue;
      int arguments = row.group(1).isEmpty() ? 0 : row.group(1).split(", ").length;
      CHECKS.due("arguments of " + call.getName(), arguments, call.getParameterCount());
    }
  }

  private static void allTestsAreTold(String readme) throws IOException {
    try (Stream<Path> files = Files.list(Path.of("src/test/java"))) {
      files.map(file -> file.getFileName().toString().replace(".java", "")).forEach(name ->
          CHECKS.due(name + " is told", readme.contains("`" + name + "`") ? 1 : 0, 1));
    }
  }
}
