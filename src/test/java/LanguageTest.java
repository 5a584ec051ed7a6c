import java.io.IOException;
import java.lang.reflect.Constructor;
import java.lang.reflect.Field;
import java.lang.reflect.Method;
import java.lang.reflect.Modifier;
import java.nio.file.Files;
import java.nio.file.Path;
import java.util.Arrays;
import java.util.Set;
import java.util.TreeSet;
import java.util.regex.Matcher;
import java.util.regex.Pattern;

/** The public face, and what of LANGUAGE.md can be seen in the text of the class. */
public final class LanguageTest {
  private static final Checks CHECKS = new Checks();
  private static final String[] FACE = {
    "int hall(int)", "int stone(int, int)", "int lays(int, int)", "int takes(int)", "int props(int)",
    "int falls(int, int)", "int corners(int)", "int worst()", "int together(int, int)", "int cut(int)",
    "int toGround()", "int longest(int)", "int game(int)", "long bombs(int, int, int)",
    "int mostLoad(int)", "int which(int, int)", "int tapNext(int)", "int propsWanted()", "int more(int)",
    "int lean(int)", "int tins(int, int)", "int forged(int)", "int judge(int)",
    "int raids(int, int, int)", "int felled(int)", "int twins()", "int highest(int)",
    "int depends(int)", "int image()", "int restore()", "int count(int)",
    "int keep(int, int, int, int)", "int row(int, int, int)", "int put(int, int, int)",
    "long element(int, int)", "int copy(int, int, int, int, int)", "int cost(int)", "int toss(int)"
  };
  private static final Path CLASS = Path.of("src/main/java/CornerstoneSought.java");

  public static void main(String[] args) throws IOException {
    String whole = Files.readString(CLASS);
    String code = whole
        .replaceAll("(?s)/\\*.*?\\*/", "")
        .replaceAll("//[^\n]*", "")
        .replaceAll("\"[^\"\n]*\"", "\"\"");
    none(code, "lambda", "->");
    none(code, "method reference", "::");
    none(code, "annotation", "@");
    none(code, "package line", "(?m)^package ");
    none(code, "machine's exception or a class above it",
        "catch *\\([^)]*(ArrayIndex|IndexOutOf|NullPointer|Arithmetic|ClassCast|NegativeArray"
            + "|ArrayStore|RuntimeException|\\bException|Throwable|Error)");
    none(code, "word that may not stand",
        "\\b(finally|synchronized|assert|var|yield|Exact|hashCode|toString|Random|Thread|Object"
            + "|protected|instanceof)\\b");
    none(code, "loop without a bound", "while *\\( *true *\\)|for *\\( *;[^;]*;");
    none(code, "public member inside", "(?m)^ {4,}public ");
    none(code, "static field that is not final", "\\bstatic (?!final|class|int \\w+\\(|long \\w+\\(|boolean \\w+\\()");
    onlyTheFaceIsSeen();
    classesInside();
    onlyTheLibraryThatStands(code);
    onlyImport(whole);
    fewClasses(code);
    shortMethods(whole);
    CHECKS.due("bytes above 127", whole.chars().filter(c -> c > 127).count(), 0);
    CHECKS.end();
  }

  private static void onlyTheFaceIsSeen() {
    Class<?> seen = CornerstoneSought.class;
    Set<String> face = new TreeSet<>(Arrays.asList(FACE));
    Set<String> names = namesOfTheFace();
    CHECKS.due("public and final", seen.getModifiers(), Modifier.PUBLIC | Modifier.FINAL);
    for (Method m : seen.getDeclaredMethods()) {
      if (Modifier.isPrivate(m.getModifiers())) {
        CHECKS.due("private " + m.getName() + " as a public one", names.contains(m.getName()) ? 1 : 0, 0);
        continue;
      }
      String types = Arrays.toString(m.getParameterTypes()).replaceAll("[\\[\\]]", "");
      String call = m.getReturnType() + " " + m.getName() + "(" + types + ")";
      CHECKS.due(call + " is of the face", face.remove(call) ? 1 : 0, 1);
      CHECKS.due(call + " is public", m.getModifiers(), Modifier.PUBLIC);
    }
    CHECKS.due("lacking " + face, face.size(), 0);
    for (Field f : seen.getDeclaredFields()) {
      CHECKS.due("private " + f.getName(), Modifier.isPrivate(f.getModifiers()) ? 1 : 0, 1);
    }
    Constructor<?>[] made = seen.getDeclaredConstructors();
    CHECKS.due("constructors", made.length, 1);
    CHECKS.due("its arguments", made[0].getParameterCount(), 0);
    CHECKS.due("it is public", made[0].getModifiers(), Modifier.PUBLIC);
  }

  private static Set<String> namesOfTheFace() {
    Set<String> names = new TreeSet<>();
    for (String call : FACE) names.add(call.replaceAll("^\\w+ |\\(.*", ""));
    return names;
  }

  private static void classesInside() {
    Set<String> names = namesOfTheFace();
    for (Class<?> inside : CornerstoneSought.class.getDeclaredClasses()) {
      int seenAs = inside.getModifiers() & (Modifier.PUBLIC | Modifier.PROTECTED);
      CHECKS.due(inside.getName() + " is not seen", seenAs, 0);
      CHECKS.due(inside.getName() + " is static", Modifier.isStatic(inside.getModifiers()) ? 1 : 0, 1);
      int fields = 0;
      for (Field f : inside.getDeclaredFields()) if (!Modifier.isStatic(f.getModifiers())) fields++;
      CHECKS.due(inside.getName() + " has some twenty fields at most", fields <= 20 ? 1 : 0, 1);
      for (Method m : inside.getDeclaredMethods()) {
        CHECKS.due(m.getName() + " inside as a public one", names.contains(m.getName()) ? 1 : 0, 0);
        CHECKS.due(m.getName() + " has seven parameters at most", m.getParameterCount() <= 7 ? 1 : 0, 1);
      }
    }
  }

  /** Static calls of the library, and objects that are made of it, as LANGUAGE.md lists them. */
  private static void onlyTheLibraryThatStands(String code) {
    Set<String> stand = Set.of(
        "Integer.bitCount", "Long.bitCount", "Math.max", "Math.min", "Arrays.fill",
        "System.arraycopy");
    Matcher call = Pattern.compile("\\b[A-Z][a-z]\\w*\\.[a-z]\\w*(?= *\\()").matcher(code);
    while (call.find()) CHECKS.due(call.group() + " stands", stand.contains(call.group()) ? 1 : 0, 1);
    Set<String> made = new TreeSet<>(Set.of(
        "IllegalArgumentException", "IllegalStateException", "UnsupportedOperationException",
        "int", "long"));
    for (Class<?> inside : CornerstoneSought.class.getDeclaredClasses()) {
      made.add(inside.getSimpleName());
    }
    Matcher object = Pattern.compile("\\bnew (\\w+)").matcher(code);
    while (object.find()) CHECKS.due("new " + object.group(1), made.contains(object.group(1)) ? 1 : 0, 1);
  }

  private static void none(String code, String what, String pattern) {
    Matcher found = Pattern.compile(pattern).matcher(code);
    boolean there = found.find();
    CHECKS.due(what + (there ? " '" + found.group() + "'" : ""), there ? 1 : 0, 0);
  }

  private static void onlyImport(String whole) {
    Set<String> imports = new TreeSet<>();
    Matcher found = Pattern.compile("(?m)^import (.*);").matcher(whole);
    while (found.find()) imports.add(found.group(1));
    imports.remove("java.util.Arrays");
    CHECKS.due("other imports " + imports, imports.size(), 0);
  }

  private static void fewClasses(String code) {
    int classes = 0;
    Matcher found = Pattern.compile("\\bclass \\w+").matcher(code);
    while (found.find()) classes++;
    CHECKS.due("more than twelve classes: " + classes, classes > 12 ? 1 : 0, 0);
  }

  private static void shortMethods(String whole) {
    int since = 0;
    int line = 0;
    for (String text : whole.split("\n")) {
      line++;
      boolean begins = text.matches(" {2}(  )?[a-z][^=;]*\\) ?(throws [^{]*)?\\{");
      if (begins) since = line;
      boolean ends = since > 0 && text.matches(" {2}(  )?\\}");
      if (ends && line - since > 60) CHECKS.due("lines of the method at " + since, line - since, 60);
      if (ends) since = 0;
    }
  }
}
