import java.io.IOException;
import java.nio.file.Files;
import java.nio.file.Path;
import java.util.List;
import java.util.regex.Matcher;
import java.util.regex.Pattern;

/** Those rules of ../shared/LANGUAGE.md that can be seen from the lines of the program. */
public final class LanguageTest {
  private static int wrong = 0;

  public static void main(String[] args) throws IOException {
    List<String> lines = Files.readAllLines(Path.of("src/main/java/CitingLetters.java"));
    StringBuilder code = new StringBuilder();
    for (String line : lines) code.append(line.replaceAll("//.*|^\\s*/?\\*.*", "").replaceAll("\"[^\"]*\"", "\"\"")).append('\n');
    none(code, "->|::", "2: no lambda, no method reference");
    none(code, "\\bMath\\.\\w+Exact|\\bfinally\\b|\\bsynchronized\\b|\\bassert\\b|\\bcatch\\b|\\btry\\b", "4, 6");
    none(code, "\\b(protected|volatile|transient|native|Object|System\\.out|System\\.err|Thread|Random|HashMap|Map|Set)\\b", "1, 4, 13");
    none(code, "\\bstatic \\{", "5: no static initialiser block");
    none(code, "static (?!final|class|int|boolean|String|Token|long)", "5: no static state");
    none(code, "\"\"\\s*\\+|\\+\\s*\"\"", "10: no joining of texts by +");
    none(code, "[^\\x00-\\x7f]", "4: signs 1 to 127");
    none(code, "\\n {4}(?!private |public )[A-Za-z].*", "1: no package-visible member of the class itself");
    none(code, "public (?!static final int NONE|final class CitingLetters|CitingLetters\\(\\)|int \\w+\\(|boolean \\w+\\()", "1: the face alone is public");
    count(code, "\\b(class|enum|interface|record) \\w+", 12, "11: classes");
    methods(lines);
    System.out.println(wrong == 0 ? "LanguageTest: no rule broken" : "LanguageTest: " + wrong + " rules broken");
    if (wrong != 0) System.exit(1);
  }

  private static void none(CharSequence code, String pattern, String rule) {
    Matcher m = Pattern.compile(pattern).matcher(code);
    while (m.find()) { wrong++; System.out.println("rule " + rule + ": " + m.group()); }
  }

  private static void count(CharSequence code, String pattern, int most, String rule) {
    Matcher m = Pattern.compile(pattern).matcher(code);
    int n = 0;
    while (m.find()) n++;
    if (n > most) { wrong++; System.out.println("rule " + rule + ": " + n); }
  }

  /** Rule 11: lengths and parameters; rule 1: no private method bears the name of a public one. */
  private static void methods(List<String> lines) {
    Pattern head = Pattern.compile("^( {4}| {8})((?:public |private |static |final )*)\\w+(?:\\[\\])* (\\w+)\\((.*)\\).* \\{$");
    StringBuilder face = new StringBuilder(" ");
    for (int k = 0; k < lines.size(); k++) {
      Matcher m = head.matcher(lines.get(k));
      if (!m.matches() || m.group(2).contains("new ")) continue;
      int end = k;
      while (!lines.get(end).equals(m.group(1) + "}")) end++;
      if (end - k > 60) { wrong++; System.out.println("rule 11: long method " + m.group(3)); }
      if (m.group(4).split(",").length > 7) { wrong++; System.out.println("rule 11: parameters of " + m.group(3)); }
      if (m.group(2).startsWith("public")) face.append(m.group(3)).append(' ');
    }
    for (String line : lines) {
      Matcher m = head.matcher(line);
      if (m.matches() && !m.group(2).startsWith("public") && face.indexOf(" " + m.group(3) + " ") >= 0) {
        wrong++;
        System.out.println("rule 1: the name of a public method: " + m.group(3));
      }
    }
    if (face.toString().trim().split(" ").length != 40) { wrong++; System.out.println("rule 1: the face has 40 methods, not:" + face); }
  }
}
