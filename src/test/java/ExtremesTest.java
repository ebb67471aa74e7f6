import java.lang.reflect.InvocationTargetException;
import java.lang.reflect.Method;
import java.lang.reflect.Modifier;
import java.util.Arrays;
import java.util.Comparator;
import java.util.NoSuchElementException;

/**
 * Rows of 512 calls with arguments from all edges, in whatever state they lead to: none but look() may throw (rules 6 and 7),
 * a refused call says NONE, -2 or false, and a second object, called in turn with the first, answers the same (rules 5 and 13).
 */
public final class ExtremesTest {
  private static final int[] EDGES = {Integer.MIN_VALUE, Integer.MIN_VALUE + 1, -1000, -33, -32, -31, -2, -1, 0, 1, 2, 3, 4, 5, 6, 7, 8, 9, 11, 12, 13,
      19, 20, 21, 29, 30, 31, 32, 33, 62, 63, 64, 65, 98, 99, 100, 149, 150, 151, 399, 400, 401, 998, 999, 1000, 4095, 8191,
      (1 << 29) - 1, 1 << 29, (1 << 30) - 1, 1 << 30, Integer.MAX_VALUE - 1, Integer.MAX_VALUE};
  /** How often a method that lets something stand is called among the others. */
  private static final String OFTEN = "write write write write days again read text";
  private static long seed = 20261119;
  private static int wrong;

  public static void main(String[] args) throws IllegalAccessException, NoSuchMethodException {
    Method[] face = Arrays.stream(CitingLetters.class.getDeclaredMethods())
        .filter(m -> Modifier.isPublic(m.getModifiers()) && !m.isSynthetic()).sorted(Comparator.comparing(Method::getName)).toArray(Method[]::new);
    if (face.length != 40) { wrong++; System.out.println("the face has " + face.length + " methods"); }
    Method[] often = new Method[8];
    int n = 0;
    for (String name : OFTEN.split(" ")) for (Method m : face) if (m.getName().equals(name)) often[n++] = m;
    int runs = args.length > 0 ? Integer.parseInt(args[0]) : 400;
    for (int run = 0; run < runs && wrong == 0; run++) {
      CitingLetters x = new CitingLetters(), y = new CitingLetters();
      int mild = some(5);
      for (int call = 0; call < 512 && wrong == 0; call++) {
        Method m = some(3) == 0 ? often[some(8)] : face[some(40)];
        Object[] with = arguments(m, mild);
        Object got = answer(x, m, with), again = answer(y, m, with);
        String row = "run " + run + ", call " + call + ": " + m.getName() + Arrays.toString(with);
        if (!got.equals(again)) { wrong++; System.out.println(row + " answered " + got + ", and then " + again); }
        if (got instanceof Integer && (Integer) got < (m.getName().equals("text") ? -2 : -1)) { wrong++; System.out.println(row + " answered " + got); }
      }
    }
    System.out.println("ExtremesTest: " + (wrong == 0 ? "nothing throws, all is the same again" : "wrong"));
    if (wrong != 0) System.exit(1);
  }

  private static int some(int n) {
    seed = seed * 6364136223846793005L + 1442695040888963407L;
    return (int) ((seed >>> 33) % n);
  }

  private static Object[] arguments(Method m, int mild) {
    Object[] with = new Object[m.getParameterCount()];
    for (int k = 0; k < with.length; k++) with[k] = some(5) < mild ? some(7) - 1 : EDGES[some(EDGES.length)];
    return with;
  }

  private static Object answer(CitingLetters x, Method m, Object[] with) throws IllegalAccessException {
    try {
      return m.invoke(x, with);
    } catch (InvocationTargetException e) {
      Throwable t = e.getCause();
      boolean due = m.getName().equals("look") && (t.getClass() == IndexOutOfBoundsException.class || t.getClass() == NoSuchElementException.class);
      if (!due) { wrong++; System.out.println(m.getName() + Arrays.toString(with) + " threw " + t); }
      return t.getClass().getName();
    }
  }
}
