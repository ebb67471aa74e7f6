import java.io.IOException;
import java.lang.reflect.Array;
import java.lang.reflect.Field;
import java.lang.reflect.Modifier;
import java.nio.file.Files;
import java.nio.file.Path;
import java.util.IdentityHashMap;
import java.util.List;
import java.util.Map;
import java.util.regex.Pattern;

/** The one room of a run: 512 objects must fit into it, and no call may make any more. */
public final class RoomTest {
  private static final int CALLS = 512, OBJECTS = 600_000, ELEMENTS = 7_300_000;
  private static final Map<Object, Boolean> seen = new IdentityHashMap<>();
  private static long elements;

  public static void main(String[] args) throws IOException, IllegalAccessException {
    count(new CitingLetters());
    boolean good = true;
    if ((long) seen.size() * CALLS > OBJECTS || elements * CALLS > ELEMENTS) {
      good = false;
      System.out.println("rule 12: one object has " + seen.size() + " objects and arrays, " + elements + " fields and elements");
    }
    for (String line : made()) {
      good = false;
      System.out.println("rule 12: a call makes an object: " + line.trim());
    }
    System.out.println("RoomTest: " + (good ? "all fits" : "too much"));
    if (!good) System.exit(1);
  }

  /** Counts an object with all that it refers to; what the class itself has once for all isn't counted. */
  private static void count(Object x) throws IllegalAccessException {
    if (x == null || x instanceof Enum || x instanceof String || seen.put(x, true) != null) return;
    if (x.getClass().isArray()) {
      int length = Array.getLength(x);
      elements += length;
      if (!x.getClass().getComponentType().isPrimitive()) for (int k = 0; k < length; k++) count(Array.get(x, k));
      return;
    }
    for (Field field : x.getClass().getDeclaredFields()) {
      if (Modifier.isStatic(field.getModifiers())) continue;
      elements++;
      field.setAccessible(true);
      if (!field.getType().isPrimitive()) count(field.get(x));
    }
  }

  /** The lines with `new` that are neither a field, nor a throw, nor the one in a constructor. */
  private static List<String> made() throws IOException {
    Pattern makes = Pattern.compile("\\bnew\\b|\\.clone\\(|\\bcopyOf|\\bvalues\\(\\)|toCharArray|substring|StringBuilder");
    Pattern free = Pattern.compile("^ +(private (static )?(final )?[\\w\\[\\]]+ \\w+ = .*|(default: )?throw new .*|scanner = new Scanner\\(bytes\\);|/?\\*.*|//.*)$");
    return Files.readAllLines(Path.of("src/main/java/CitingLetters.java")).stream()
        .filter(line -> makes.matcher(line).find() && !free.matcher(line).matches()).toList();
  }
}
