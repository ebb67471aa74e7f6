import java.io.IOException;
import java.lang.reflect.InvocationTargetException;
import java.lang.reflect.Method;
import java.lang.reflect.Modifier;
import java.net.URL;
import java.net.URLClassLoader;
import java.nio.file.DirectoryStream;
import java.nio.file.Files;
import java.nio.file.Path;
import java.util.List;
import java.util.regex.Matcher;
import java.util.regex.Pattern;
import javax.tools.JavaCompiler;
import javax.tools.ToolProvider;

/** The examples of README.md, run as they stand there, each call against the answer behind it; and whether it names the whole face. */
public final class ReadmeTest {
  private static final Pattern CALL = Pattern.compile("(int (\\w+) = )?(x\\.\\w+\\(.*\\)); +// (-?\\d+|true|false)(:.*)?");
  private static int wrong, asked, answers;

  /** Called by the examples. */
  public static void due(String call, Object got, Object want) {
    answers++;
    if (!got.equals(want)) fail(call + " answered " + got + ", README.md says " + want);
  }

  public static void main(String[] args) throws IOException, ReflectiveOperationException {
    List<String> readme = Files.readAllLines(Path.of("README.md"));
    for (Method m : CitingLetters.class.getDeclaredMethods()) {
      boolean inTable = readme.stream().anyMatch(line -> line.startsWith("|") && line.contains("`" + m.getName() + "`"));
      if (Modifier.isPublic(m.getModifiers()) && !inTable) fail("its table doesn't name " + m.getName());
    }
    try (DirectoryStream<Path> tests = Files.newDirectoryStream(Path.of("src/test/java"), "*{Test,Tests,Boundaries}.java")) {
      for (Path test : tests) {
        String name = test.getFileName().toString().replace(".java", "");
        if (readme.stream().noneMatch(line -> line.contains("`" + name + "`"))) fail("it doesn't name " + name);
      }
    }
    run(program(readme));
    if (asked == 0 || answers != asked) fail("of " + asked + " answers in its examples " + answers + " were looked at");
    System.out.println("ReadmeTest: " + (wrong == 0 ? "all " + answers + " answers are as README.md says" : "wrong"));
    if (wrong != 0) System.exit(1);
  }

  private static void fail(String what) {
    wrong++;
    System.out.println("README.md: " + what);
  }

  /** Each example as a block of its own; a call with an answer behind it is held against that. */
  private static String program(List<String> readme) {
    StringBuilder s = new StringBuilder("public final class Examples {\n  public static void run() {\n");
    boolean inside = false;
    for (String line : readme) {
      if (line.equals("```java") || inside && line.equals("```")) {
        inside = !inside;
        s.append(inside ? "{\n" : "}\n");
      } else if (inside) {
        s.append(statement(line)).append('\n');
      }
    }
    return s.append("  }\n}\n").toString();
  }

  private static String statement(String line) {
    Matcher m = CALL.matcher(line);
    if (!m.matches()) {
      if (line.contains("//")) fail("no answer stands behind " + line);
      return line;
    }
    asked++;
    String got = m.group(1) == null ? m.group(3) : m.group(2);
    String due = "ReadmeTest.due(\"" + m.group(3) + "\", " + got + ", " + m.group(4) + ");";
    return m.group(1) == null ? due : m.group(1) + m.group(3) + "; " + due;
  }

  private static void run(String program) throws IOException, ReflectiveOperationException {
    Path place = Files.createTempDirectory("readme");
    Path source = place.resolve("Examples.java"), made = place.resolve("Examples.class");
    try {
      Files.writeString(source, program);
      JavaCompiler compiler = ToolProvider.getSystemJavaCompiler();
      int rc = compiler.run(null, null, null, "-cp", System.getProperty("java.class.path"), "-d", place.toString(), source.toString());
      if (rc != 0) {
        fail("its examples don't compile");
        return;
      }
      try (URLClassLoader loader = new URLClassLoader(new URL[] {place.toUri().toURL()}, ReadmeTest.class.getClassLoader())) {
        loader.loadClass("Examples").getMethod("run").invoke(null);
      } catch (InvocationTargetException e) {
        fail("an example throws " + e.getCause());
      }
    } finally {
      Files.deleteIfExists(source);
      Files.deleteIfExists(made);
      Files.deleteIfExists(place);
    }
  }
}
