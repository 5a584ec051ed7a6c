import java.io.IOException;
import java.nio.file.Files;
import java.nio.file.Path;
import java.util.Set;
import java.util.TreeSet;
import java.util.regex.Matcher;
import java.util.regex.Pattern;

/** What of LANGUAGE.md can be seen in the text of the class. */
public final class LanguageTest {
  private static final Checks CHECKS = new Checks();
  private static final Path CLASS = Path.of("src/main/java/CornerstoneSought.java");

  public static void main(String[] args) throws IOException {
    String whole = Files.readString(CLASS);
    String code = whole
        .replaceAll("(?s)/\\*.*?\\*/", "")
        .replaceAll("//[^\n]*", "")
        .replaceAll("\"[^\"\n]*\"", "\"\"");
    none(code, "lambda", "->");
    none(code, "method reference", "::");
    none(code, "annotation", "@");
    none(code, "package line", "(?m)^package ");
    none(code, "machine's exception or a class above it",
        "catch *\\([^)]*(ArrayIndex|IndexOutOf|NullPointer|Arithmetic|ClassCast|NegativeArray"
            + "|ArrayStore|RuntimeException|\\bException|Throwable|Error)");
    none(code, "word that may not stand",
        "\\b(finally|synchronized|assert|var|yield|Exact|hashCode|toString|Random|Thread|Object"
            + "|protected|instanceof)\\b");
    none(code, "loop without a bound", "while *\\( *true *\\)|for *\\( *;[^;]*;");
    none(code, "public member inside", "(?m)^ {4,}public ");
    none(code, "static field that is not final", "\\bstatic (?!final|class|int \\w+\\(|long \\w+\\(|boolean \\w+\\()");
    onlyImport(whole);
    fewClasses(code);
    shortMethods(whole);
    CHECKS.due("bytes above 127", whole.chars().filter(c -> c > 127).count(), 0);
    CHECKS.end();
  }

  private static void none(String code, String what, String pattern) {
    Matcher found = Pattern.compile(pattern).matcher(code);
    boolean there = found.find();
    CHECKS.due(what + (there ? " '" + found.group() + "'" : ""), there ? 1 : 0, 0);
  }

  private static void onlyImport(String whole) {
    Set<String> imports = new TreeSet<>();
    Matcher found = Pattern.compile("(?m)^import (.*);").matcher(whole);
    while (found.find()) imports.add(found.group(1));
    imports.remove("java.util.Arrays");
    CHECKS.due("other imports " + imports, imports.size(), 0);
  }

  private static void fewClasses(String code) {
    int classes = 0;
    Matcher found = Pattern.compile("\\bclass \\w+").matcher(code);
    while (found.find()) classes++;
    CHECKS.due("more than twelve classes: " + classes, classes > 12 ? 1 : 0, 0);
  }

  private static void shortMethods(String whole) {
    int since = 0;
    int line = 0;
    for (String text : whole.split("\n")) {
      line++;
      boolean begins = text.matches(" {2}(  )?[a-z][^=;]*\\) ?(throws [^{]*)?\\{");
      if (begins) since = line;
      boolean ends = since > 0 && text.matches(" {2}(  )?\\}");
      if (ends && line - since > 60) CHECKS.due("lines of the method at " + since, line - since, 60);
      if (ends) since = 0;
    }
  }
}
