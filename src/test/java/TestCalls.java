import java.util.NoSuchElementException;

/** Short calls that the tests share. */
abstract class TestCalls {
  static final int NONE = CitingLetters.NONE;
  /** What looked() answers for the exceptions of look(). */
  static final int NO_LETTER = -101, NO_WHAT = -102;

  /** Feeds a text, filled up with blanks. */
  static void feed(CitingLetters x, String text) {
    StringBuilder s = new StringBuilder(text);
    while (s.length() % 20 != 0) s.append(' ');
    for (int k = 0; k < s.length(); k += 20) {
      int[] n = new int[5];
      for (int i = 0; i < 20; i++) n[i / 4] = n[i / 4] << 8 | s.charAt(k + i);
      x.feed(n[0], n[1], n[2], n[3], n[4]);
    }
  }
  /** Feeds a text and tells how many lines. */
  static int told(CitingLetters x, String text) {
    feed(x, text);
    return x.text(text.length());
  }
  static CitingLetters with(String text) {
    CitingLetters x = new CitingLetters();
    if (told(x, text) < 0) throw new IllegalStateException("no good text: " + text);
    return x;
  }

  static int mail(CitingLetters x, int from, int to) { return x.write(from, to, 0, NONE, NONE); }
  static int mail(CitingLetters x, int from, int to, int one) { return x.write(from, to, 0, one, NONE); }
  static int takeBack(CitingLetters x, int from, int to, int one) { return x.write(from, to, 2, one, NONE); }
  static void mails(CitingLetters x, int n, int from, int to) { for (int k = 0; k < n; k++) mail(x, from, to); }

  /** Lets so many days go by, more than 99 too. */
  static void go(CitingLetters x, int n) {
    for (; n > 99; n -= 99) x.days(99);
    x.days(n);
  }

  static int looked(CitingLetters x, int letter, int what) {
    try {
      return x.look(letter, what);
    } catch (IndexOutOfBoundsException e) {
      return NO_LETTER;
    } catch (NoSuchElementException e) {
      return NO_WHAT;
    }
  }

  static String times(String s, int n) { return s.repeat(n); }
  static int one(boolean b) { return b ? 1 : 0; }

  /** A list of numbers for writers 0, 1 and so on. */
  static int list(int... n) {
    int bits = 0;
    for (int v = 0; v < n.length; v++) bits |= n[v] << 5 * v;
    return bits;
  }

  /**
   * TODAY 10: 0 by w0 to w1 (day 0); 1 by w0 to w2 (day 0); 2 by w1 answers 0, to w2 (day 5);
   * 3 by w2, who has read 1 and 2, answers 2, to w0 (day 10); 4 by w3, who has read nothing, to w4 (day 10).
   */
  static CitingLetters five() {
    CitingLetters x = new CitingLetters();
    mail(x, 0, 2);
    mail(x, 0, 4);
    x.days(5);
    mail(x, 1, 4, 0);
    x.days(5);
    mail(x, 2, 1, 2);
    mail(x, 3, 16);
    return x;
  }
  /** Thirty letters, five of each writer, each to the next writer; each writer's own are all that is before one. */
  static CitingLetters thirty() {
    CitingLetters x = new CitingLetters();
    for (int k = 0; k < 30; k++) mail(x, k % 6, 1 << (k + 1) % 6);
    return x;
  }
}
