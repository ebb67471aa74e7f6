import java.io.IOException;
import java.nio.file.Files;
import java.nio.file.Path;
import java.util.LinkedHashMap;
import java.util.Map;
import java.util.TreeSet;

/** Ties each boundary test to a promise or term and to the words there that it holds the program to. */
abstract class Sentences extends TestCalls {
  private static final Map<String, String> SECTIONS = sections();
  private static final TreeSet<String> named = new TreeSet<>();
  private static String here = "";
  private static int tests, wrong;

  /** One test of its own for some words, which must stand in that section of the document just so. */
  static void says(String where, String words, Runnable test) {
    here = where + " \"" + words + "\"";
    named.add(where);
    tests++;
    if (!SECTIONS.getOrDefault(where, "").contains(words)) fail("these words don't stand there");
    try {
      test.run();
    } catch (RuntimeException | StackOverflowError e) {
      fail("threw " + e);
    }
  }

  static void due(String call, long got, long want) {
    if (got != want) fail(call + " answered " + got + ", due is " + want);
  }
  static void due(String call, boolean got, boolean want) { due(call, one(got), one(want)); }

  private static void fail(String what) {
    wrong++;
    System.out.println(here + ": " + what);
  }

  /** Whether all held, and each term and each promise was named. */
  static boolean allHeld() {
    for (String section : SECTIONS.keySet()) {
      here = section;
      if (!named.contains(section)) fail("no test names it");
    }
    System.out.println("BoundaryTests: " + tests + " sentences, " + (wrong == 0 ? "all hold" : wrong + " answers are not as due"));
    return wrong == 0;
  }

  /** The document by "Face", "Term 1" to "Term 5" and "Promise 1" to "Promise 41". */
  private static Map<String, String> sections() {
    Map<String, String> found = new LinkedHashMap<>();
    String name = "";
    try {
      for (String line : Files.readAllLines(Path.of("../shared/DOC.md"))) {
        if (line.startsWith("## What it is")) name = "Face";
        else if (line.startsWith("## The public face") || line.startsWith("## Not promised") || line.equals("## Terms")) name = "";
        else if (line.startsWith("==== ")) name = "Term " + line.substring(5, line.indexOf('.'));
        else if (line.startsWith("## Promise ")) name = line.substring(3, line.indexOf(':'));
        if (!name.isEmpty()) found.merge(name, line + "\n", String::concat);
      }
    } catch (IOException e) {
      throw new IllegalStateException("no ../shared/DOC.md", e);
    }
    if (found.size() != 1 + 5 + 41) throw new IllegalStateException("the document has other sections: " + found.keySet());
    return found;
  }
}
