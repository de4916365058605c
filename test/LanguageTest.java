import java.nio.file.Files;
import java.nio.file.Path;
import java.util.List;
import java.util.Set;
import java.util.TreeSet;
import java.util.regex.Matcher;
import java.util.regex.Pattern;

/** What can be seen of LANGUAGE.md's rules in the text of the class. */
public final class LanguageTest {
  private static final Set<String> LIBRARY = Set.of(
      "Math.max", "Math.min", "Integer.bitCount", "Integer.numberOfTrailingZeros",
      "System.arraycopy");

  public static void main(String[] args) throws Exception {
    String all = Files.readString(Path.of("src/main/java/SoapNames.java"));
    Due.so("signs 10, 32 to 126 alone", all.chars().allMatch(c -> c == 10 || c >= 32 && c < 127));
    String code = bare(all);
    words(code);
    library(code);
    indices(code);
    methods(code);
    Due.end();
  }

  /** Without comments, texts, and characters. */
  private static String bare(String all) {
    return all.replaceAll("(?s)/\\*.*?\\*/", "").replaceAll("//[^\n]*", "")
        .replaceAll("'(\\\\.|[^'])'", "0").replaceAll("\"[^\"]*\"", "0");
  }

  private static void none(String rule, String code, String pattern) {
    Matcher m = Pattern.compile(pattern).matcher(code);
    Due.so(rule + (m.find() ? ": " + m.group() : ""), !m.reset().find());
  }

  private static void words(String code) {
    none("rule 1: a package", code, "\\bpackage\\b");
    none("rule 1: protected", code, "\\bprotected\\b");
    none("rule 2: a lambda, a method reference", code, "->|::");
    none("rule 2: an anonymous class", code, "new \\w+\\([^()]*\\) *\\{");
    none("rule 3: types", code, "\\b(Object|Long|Character|Map|Set|var|double|float)\\b");
    none("rule 4: imports", code, "\\bimport\\b");
    none("rule 5: a static block", code, "\\bstatic *\\{");
    none("rule 6", code, "\\b(throw|throws|try|catch|finally|synchronized|assert)\\b");
    none("rule 6: of objects", code, "\\b(equals|hashCode|toString|getClass)\\b");
    none("rule 9: a loop without a counter", code, "\\b(while|do)\\b|for *\\( *;|; *;");
    none("rule 12: an array by a length that is not a constant", code, "new int\\[[^A-Z\\d]");
    none("rule 13", code, "\\b(Random|Thread|currentTimeMillis|nanoTime|getenv|native)\\b");
  }

  private static void library(String code) {
    Matcher m = Pattern.compile("\\b(Math|Integer|Long|Arrays|System|String|List)\\.\\w+").matcher(code);
    Set<String> used = new TreeSet<>();
    while (m.find()) {
      used.add(m.group());
    }
    used.removeAll(LIBRARY);
    Due.so("rule 4: " + used, used.isEmpty());
  }

  /** Rule 7: rows are read and written in a few places, which look at the index first. */
  private static void indices(String code) {
    Matcher m = Pattern.compile("\\b(\\w+)\\[(\\w+)\\]").matcher(code);
    int many = 0;
    while (m.find()) {
      if (!Set.of("int", "House", "Cake", "Sheet").contains(m.group(1))) {
        many++;
        Due.so("an index that is not i: " + m.group(), m.group(2).equals("i"));
      }
    }
    // at, setAt; by null and as answer: houseAt, cakeAt, sheetAt; filled: these three.
    Due.due("places with an index", many, 2 + 6 + 3);
  }

  private static void methods(String code) {
    List<String> lines = code.lines().toList();
    Pattern head = Pattern.compile("^( +)(?:public|private) [^=;]*\\(([^)]*)\\) \\{$");
    int many = 0;
    for (int i = 0; i < lines.size(); i++) {
      Matcher m = head.matcher(lines.get(i));
      if (m.matches()) {
        many++;
        int end = lines.subList(i, lines.size()).indexOf(m.group(1) + "}");
        Due.so("rule 11: lines of " + lines.get(i), end > 0 && end <= 60);
        Due.so("rule 11: parameters of " + lines.get(i), m.group(2).split(",").length <= 7);
      }
    }
    Due.so("methods seen: " + many, many > 80);
  }
}
