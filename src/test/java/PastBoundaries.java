/** What was before what, by which way, and what each way of bearing tells: Term 3, Promises 16 to 24. */
final class PastBoundaries extends Sentences {
  private static final int[] NO_LETTERS = {-1, 5, 30, 31, 32, Integer.MIN_VALUE, Integer.MAX_VALUE};
  private static final int[] NO_WRITERS = {-1, 6, 31, 32, Integer.MIN_VALUE, Integer.MAX_VALUE};

  static void all() { events(); before(); path(); sums(); numbers(); pairs(); lists(); tells(); errs(); chains(); }

  private static void events() {
    says("Term 3", "a is BEFORE b (unlike ones): b's WRITER wrote or READ a ahead of writing b, or some that a is BEFORE", () -> {
      CitingLetters x = five();
      int[][] want = {{NONE, 1, 1, 1, 0}, {2, NONE, 0, 1, 0}, {2, 0, NONE, 1, 0}, {2, 2, 2, NONE, 0}, {0, 0, 0, 0, NONE}};
      for (int a = 0; a < 5; a++) for (int b = 0; b < 5; b++) due("before(" + a + ", " + b + ")", x.before(a, b), want[a][b]);
    });
    says("Term 3", "wrote or READ a ahead of writing b", () -> {
      CitingLetters x = with("read hand 1;");
      mail(x, 0, 2);
      x.days(5);
      mail(x, 1, 4);
      due("HELD alone", x.before(0, 1), 0);
      x.read(1, 0);
      due("READ behind it, on the same DAY", x.before(0, 1), 0);
      mail(x, 1, 4);
      due("READ ahead of it, on the same DAY", x.before(0, 2), 1);
      due("wrote ahead of it, on the same DAY", x.before(1, 2), 1);
      x.days(5);
      mail(x, 2, 8);
      due("through one that didn't know it yet, and one that did", x.before(0, 3), 1);
      due("not through READ behind", x.before(0, 1), 0);
    });
  }

  private static void before() {
    says("Term 3", "APART: neither is BEFORE the other", () -> {
      CitingLetters x = new CitingLetters();
      mail(x, 0, 2);
      mail(x, 1, 1);
      x.days(5);
      due("written on one DAY, READ by both", x.before(0, 1), 0);
      due("the other way round", x.before(1, 0), 0);
      mail(x, 0, 2);
      mail(x, 1, 1);
      due("each is BEFORE the other's next", x.before(0, 3), 1);
      due("each is BEFORE the other's next", x.before(1, 2), 1);
      due("the next ones", x.before(2, 3), 0);
      due("the next ones", x.before(3, 2), 0);
    });
    says("Promise 16", "1: a is BEFORE b, 2: b is BEFORE a, 0: APART", () -> {
      CitingLetters x = five();
      due("before(0, 3)", x.before(0, 3), 1);
      due("before(3, 0)", x.before(3, 0), 2);
      due("before(3, 4)", x.before(3, 4), 0);
      x = thirty();
      due("the first and the last of one WRITER", x.before(5, 29), 1);
      due("the last and the first", x.before(29, 5), 2);
      due("of two WRITERS", x.before(0, 29), 0);
    });
    says("Promise 16", "NONE: no such ones, both the same", () -> {
      CitingLetters x = five();
      for (int a = 0; a < 5; a++) due("both the same", x.before(a, a), NONE);
      for (int no : NO_LETTERS) {
        due("before(0, " + no + ")", x.before(0, no), NONE);
        due("before(" + no + ", 0)", x.before(no, 0), NONE);
        due("before(" + no + ", " + no + ")", x.before(no, no), NONE);
      }
    });
  }

  private static void path() {
    says("Term 3", "the fewest; of several the first by numbers", () -> {
      // 3 knows 0 by 1, of the same WRITER, and by 2; the lesser number goes first
      CitingLetters x = five();
      due("path(0, 3, 1)", x.path(0, 3, 1), 1);
      // three steps over lesser numbers, two over a greater one
      CitingLetters y = new CitingLetters();
      mail(y, 0, 2);
      y.days(5);
      mail(y, 1, 4);
      y.days(5);
      mail(y, 2, 8);
      mail(y, 0, 8);
      y.days(5);
      mail(y, 3, 1);
      due("the fewest", y.path(0, 4, 1), 3);
      due("two steps", y.path(0, 4, 2), 4);
      due("none behind", y.path(0, 4, 3), NONE);
      due("another way", y.path(1, 4, 1), 2);
    });
    says("Term 3", "each one was written or READ by the next one's WRITER ahead of writing that", () -> {
      CitingLetters x = new CitingLetters();
      mails(x, 30, 0, 2);
      due("his own: one step at once", x.path(0, 29, 1), 29);
      due("no more", x.path(0, 29, 2), NONE);
      CitingLetters y = with("read comes;");
      for (int k = 0; k < 6; k++) { mail(y, k, 1 << (k + 1) % 6); y.days(5); }
      for (int k = 0; k < 6; k++) due("path(0, 5, " + k + ")", y.path(0, 5, k), k);
      due("path(0, 5, 6)", y.path(0, 5, 6), NONE);
      // the longest there can be: two of the first WRITER, of which he sends on the second alone, and one of each other
      CitingLetters z = new CitingLetters();
      mail(z, 0, 2);
      z.lose(0);
      for (int w = 0; w < 6; w++) { mail(z, w, 1 << (w + 1) % 6); z.days(5); }
      for (int k = 0; k <= 6; k++) due("path(0, 6, " + k + ")", z.path(0, 6, k), k);
      due("path(0, 6, 7)", z.path(0, 6, 7), NONE);
    });
    says("Term 3", "of several the first by numbers", () -> {
      // three ways of three steps: 0 1 4 5, 0 2 3 5, 0 2 4 5
      CitingLetters x = new CitingLetters();
      mail(x, 0, 6);
      x.days(5);
      mail(x, 1, 8);
      mail(x, 2, 24);
      x.days(5);
      mail(x, 4, 32);
      mail(x, 3, 32);
      x.days(5);
      mail(x, 5, 1);
      due("path(0, 5, 1)", x.path(0, 5, 1), 1);
      due("path(0, 5, 2): 3 didn't know 1", x.path(0, 5, 2), 4);
      due("path(2, 5, 1): by the lesser", x.path(2, 5, 1), 3);
    });
    says("Promise 17", "(0: a); NONE: a isn't BEFORE b, there is none such", () -> {
      CitingLetters x = five();
      due("path(0, 3, 0)", x.path(0, 3, 0), 0);
      due("path(0, 3, 2)", x.path(0, 3, 2), 3);
      for (int k : new int[] {-1, 3, 30, Integer.MIN_VALUE, Integer.MAX_VALUE}) due("path(0, 3, " + k + ")", x.path(0, 3, k), NONE);
      due("path(0, 1, 1)", x.path(0, 1, 1), 1);
      due("path(0, 1, 2)", x.path(0, 1, 2), NONE);
      due("behind", x.path(3, 0, 0), NONE);
      due("APART", x.path(1, 2, 0), NONE);
      due("both the same", x.path(3, 3, 0), NONE);
      for (int no : NO_LETTERS) {
        due("path(0, " + no + ", 0)", x.path(0, no, 0), NONE);
        due("path(" + no + ", 3, 0)", x.path(no, 3, 0), NONE);
      }
    });
  }

  private static void sums() {
    says("Term 3", "1 more than the greatest SUM of those BEFORE it (1 without)", () -> {
      CitingLetters x = five();
      int[] want = {1, 2, 2, 3, 1};
      for (int k = 0; k < 5; k++) due("sum(" + k + ")", x.sum(k), want[k]);
      CitingLetters y = new CitingLetters();
      mails(y, 30, 0, 2);
      due("the greatest", y.sum(29), 30);
    });
    says("Promise 18", "NONE: no such LETTER", () -> {
      due("without LETTERS", new CitingLetters().sum(0), NONE);
      CitingLetters x = five();
      for (int no : NO_LETTERS) due("sum(" + no + ")", x.sum(no), NONE);
    });
  }

  private static void numbers() {
    says("Term 3", "how many LETTERS of v are BEFORE it, or are it", () -> {
      CitingLetters x = five();
      int[][] want = {{1, 0, 0, 0, 0, 0}, {2, 0, 0, 0, 0, 0}, {1, 1, 0, 0, 0, 0}, {2, 1, 1, 0, 0, 0}, {0, 0, 0, 1, 0, 0}};
      for (int k = 0; k < 5; k++) for (int v = 0; v < 6; v++) due("number(" + k + ", " + v + ")", x.number(k, v), want[k][v]);
    });
    says("Promise 19", "NONE: no such ones", () -> {
      due("without LETTERS", new CitingLetters().number(0, 0), NONE);
      CitingLetters x = five();
      for (int no : NO_LETTERS) due("number(" + no + ", 0)", x.number(no, 0), NONE);
      for (int no : NO_WRITERS) due("number(0, " + no + ")", x.number(0, no), NONE);
      due("the last of both", x.number(4, 5), 0);
    });
  }

  private static void pairs() {
    says("Term 3", "the greatest NUMBER for u of a LETTER of v that is BEFORE it or is it (0 without)", () -> {
      CitingLetters x = five();
      due("itself: pair(0, 0, 0)", x.pair(0, 0, 0), 1);
      due("a LETTER of 1 BEFORE it", x.pair(3, 0, 1), 1);
      due("the greatest of two of 0", x.pair(3, 0, 0), 2);
      due("itself, of 2", x.pair(3, 0, 2), 2);
      due("a LETTER of 0 knew none of 1", x.pair(3, 1, 0), 0);
      due("without: none of 3 is BEFORE it", x.pair(3, 0, 3), 0);
      due("without: 1 isn't BEFORE 1", x.pair(1, 0, 1), 0);
      // 2 by w2 has 0 by w0 BEFORE it through 1 by w1 alone
      CitingLetters y = new CitingLetters();
      for (int w = 0; w < 3; w++) { mail(y, w, 2 << w); y.days(5); }
      due("of one that he himself hasn't READ", y.pair(2, 0, 0), 1);
      due("of one that he has READ", y.pair(2, 0, 1), 1);
      due("of his own", y.pair(2, 1, 2), 1);
    });
    says("Promise 20", "NONE: no such ones", () -> {
      due("without LETTERS", new CitingLetters().pair(0, 0, 0), NONE);
      CitingLetters x = five();
      for (int no : NO_LETTERS) due("pair(" + no + ", 0, 0)", x.pair(no, 0, 0), NONE);
      for (int no : NO_WRITERS) {
        due("pair(0, " + no + ", 0)", x.pair(0, no, 0), NONE);
        due("pair(0, 0, " + no + ")", x.pair(0, 0, no), NONE);
      }
      due("the last of all", x.pair(4, 5, 5), 0);
      due("one and the same WRITER", x.pair(4, 3, 3), 1);
    });
  }

  private static void lists() {
    says("Term 3", "those BEFORE it that are BEFORE no other one BEFORE it", () -> {
      CitingLetters x = five();
      int[] want = {0, 1, 1, 6, 0};
      for (int k = 0; k < 5; k++) due("list(" + k + ")", x.list(k), want[k]);
      // 0 by w1 went to w2 and w3, 1 by w2 to w3, who has READ both ahead of 2: 0 is BEFORE 1
      CitingLetters z = new CitingLetters();
      mail(z, 1, 12);
      z.days(5);
      mail(z, 2, 8);
      z.days(5);
      mail(z, 3, 1);
      due("BEFORE one that is in it", z.list(2), 2);
      CitingLetters y = thirty();
      due("the last: his latest alone", y.list(29), 1 << 23);
      due("his first: none", y.list(5), 0);
    });
    says("Promise 21", "NONE: no such LETTER", () -> {
      due("without LETTERS", new CitingLetters().list(0), NONE);
      CitingLetters x = five();
      for (int no : NO_LETTERS) due("list(" + no + ")", x.list(no), NONE);
    });
  }

  /** 0 and 1 by w0 to w1; 2 by w1, who has READ both, ANSWERS 1; 3 by w2 ANSWERS 2. */
  private static CitingLetters unanswered() {
    CitingLetters x = new CitingLetters();
    mails(x, 2, 0, 2);
    x.days(5);
    mail(x, 1, 4, 1);
    x.days(5);
    mail(x, 2, 1, 2);
    return x;
  }

  /** Of each word: `w>to` a WRITER writes, `w:l` he READS a LETTER by hand, `days` five DAYS go by. */
  private static CitingLetters rows(String words) {
    CitingLetters x = with("read hand;");
    for (String word : words.split(" ")) {
      String[] n = word.split("[>:]");
      if (word.equals("days")) x.days(5);
      else if (word.contains(">")) mail(x, Integer.parseInt(n[0]), Integer.parseInt(n[1]));
      else if (x.read(Integer.parseInt(n[0]), Integer.parseInt(n[1])) == NONE) due("read(" + word + ")", NONE, 0);
    }
    return x;
  }

  private static void tells() {
    says("Term 3", "0 by ANSWERS: b ANSWERS a, or one that tells so", () -> {
      CitingLetters x = five();
      due("b ANSWERS a", x.tells(2, 3, 0), 1);
      due("through another", x.tells(0, 3, 0), 1);
      due("BEFORE, but not by ANSWERS", x.tells(1, 3, 0), 0);
      due("backwards", x.tells(3, 2, 0), 0);
      CitingLetters y = new CitingLetters();
      mails(y, 2, 0, 2);
      y.write(0, 2, 0, 0, 1);
      due("the second that it ANSWERS", y.tells(1, 2, 0), 1);
      mail(y, 0, 2, 2);
      due("through the second", y.tells(1, 3, 0), 1);
      CitingLetters z = unanswered();
      due("what he who is answered had READ, and not answered", z.tells(0, 2, 0), 0);
      due("through that answer", z.tells(0, 3, 0), 0);
      due("BEFORE all the same", z.before(0, 3), 1);
      due("what he answered", z.tells(1, 3, 0), 1);
      due("the three that 0 is BEFORE", z.errs(0), 3);
    });
    says("Term 3", "1 by SUM: that of a is less", () -> {
      CitingLetters x = five();
      due("less", x.tells(1, 3, 1), 1);
      due("the same", x.tells(1, 2, 1), 0);
      due("more", x.tells(3, 1, 1), 0);
      due("less, though APART", x.tells(4, 1, 1), 1);
    });
    says("Term 3", "2 by NUMBERS: b's NUMBER for a's WRITER is that of a at least", () -> {
      CitingLetters x = five();
      due("the same", x.tells(1, 3, 2), 1);
      due("more", x.tells(0, 3, 2), 1);
      due("one less", x.tells(1, 2, 2), 0);
      due("none", x.tells(4, 3, 2), 0);
      due("backwards", x.tells(3, 0, 2), 0);
    });
    says("Term 3", "3 by LISTS: a is in b's LIST, or in that of one that is told so", () -> {
      CitingLetters x = five();
      due("in b's LIST", x.tells(1, 3, 3), 1);
      due("in that of another", x.tells(0, 3, 3), 1);
      due("in none", x.tells(4, 3, 3), 0);
      due("backwards", x.tells(3, 1, 3), 0);
      CitingLetters y = new CitingLetters();
      mails(y, 30, 0, 2);
      due("through 28 others", y.tells(0, 29, 3), 1);
    });
    says("Promise 22", "TELLING (1, 0) by a way of bearing 0 .. 3", () -> {
      CitingLetters x = five();
      int[] apart = {0, 1, 0, 0};
      for (int bearing = 0; bearing <= 3; bearing++) {
        due("tells(2, 3, " + bearing + ")", x.tells(2, 3, bearing), 1);
        due("tells(3, 2, " + bearing + ")", x.tells(3, 2, bearing), 0);
        due("tells(4, 3, " + bearing + ")", x.tells(4, 3, bearing), apart[bearing]);
      }
    });
    says("Promise 22", "NONE: no such ones, both the same", () -> {
      CitingLetters x = five();
      for (int bearing = 0; bearing <= 3; bearing++) {
        due("both the same", x.tells(3, 3, bearing), NONE);
        for (int no : NO_LETTERS) {
          due("tells(0, " + no + ", " + bearing + ")", x.tells(0, no, bearing), NONE);
          due("tells(" + no + ", 0, " + bearing + ")", x.tells(no, 0, bearing), NONE);
        }
      }
      for (int no : new int[] {-1, 4, Integer.MIN_VALUE, Integer.MAX_VALUE}) due("tells(0, 3, " + no + ")", x.tells(0, 3, no), NONE);
    });
  }

  private static void errs() {
    says("Term 3", "how many rows of two unlike LETTERS it tells otherwise than BEFORE", () -> {
      CitingLetters x = new CitingLetters();
      for (int bearing = 0; bearing <= 3; bearing++) due("without LETTERS", x.errs(bearing), 0);
      mail(x, 0, 2);
      for (int bearing = 0; bearing <= 3; bearing++) due("of one LETTER", x.errs(bearing), 0);
      x = five();
      int[] want = {2, 3, 0, 0};
      for (int bearing = 0; bearing <= 3; bearing++) due("errs(" + bearing + ")", x.errs(bearing), want[bearing]);
      x = thirty();
      due("by ANSWERS: ten of each WRITER", x.errs(0), 60);
      due("by SUM: ten of each two WRITERS, both ways", x.errs(1), 300);
    });
    says("Promise 23", "NONE: no such one", () -> {
      CitingLetters x = five();
      for (int no : new int[] {-1, 4, Integer.MIN_VALUE, Integer.MAX_VALUE}) due("errs(" + no + ")", x.errs(no), NONE);
    });
  }

  private static void chains() {
    says("Term 3", "the fewest rows, each LETTER BEFORE the next one, that have each one of the set once", () -> {
      CitingLetters x = five();
      int[][] want = {{0, 0}, {1, 1}, {16, 1}, {6, 2}, {11, 1}, {9, 1}, {15, 2}, {31, 3}, {22, 3}};
      for (int[] w : want) due("chains(" + w[0] + ")", x.chains(w[0]), w[1]);
      // 0 BEFORE 2 and 3, 1 BEFORE 2 alone: the row that begins with 0 must leave 2 to that of 1
      CitingLetters y = new CitingLetters();
      mail(y, 0, 12);
      mail(y, 1, 4);
      y.days(5);
      mail(y, 2, 1);
      mail(y, 3, 1);
      due("one leaves 2", y.chains(15), 2);
      due("two for one", y.chains(7), 2);
      due("one for two", y.chains(13), 2);
      due("once more", y.chains(15), 2);
      // 0 BEFORE 3 and 4, 1 BEFORE 4 and 5, 2 BEFORE 3 alone: 0 leaves 3 to 2, and 1 leaves 4 to 0
      CitingLetters z = new CitingLetters();
      mail(z, 0, 24);
      mail(z, 1, 48);
      mail(z, 2, 8);
      z.days(5);
      for (int w = 3; w < 6; w++) mail(z, w, 1);
      due("two move over", z.chains(63), 3);
      due("the other way round", z.chains(62), 3);
      due("three for two", z.chains(31), 3);
      // 0 BEFORE 3, 4 and 5, 1 and 2 BEFORE 3 alone: 0 leaves 3 to one of them, the other has none
      CitingLetters u = new CitingLetters();
      mail(u, 0, 56);
      mail(u, 1, 8);
      mail(u, 2, 8);
      u.days(5);
      for (int w = 3; w < 6; w++) mail(u, w, 1);
      due("what was left to one isn't left again", u.chains(63), 4);
      // 0 BEFORE 4 and 6, 1 BEFORE 5 and 7, 2 BEFORE 4 and 5, 3 BEFORE 6 alone: 3 takes 6, 0 keeps 4, 2 takes 5, 1 leaves it for 7
      CitingLetters v = new CitingLetters();
      mail(v, 0, 8);
      mail(v, 1, 4);
      mail(v, 2, 1);
      mail(v, 3, 16);
      v.days(5);
      for (int w : new int[] {0, 2, 3, 1}) mail(v, w, 32);
      due("four pairs", v.chains(255), 4);
      due("without 3", v.chains(247), 4);
      due("without 7", v.chains(127), 4);
      due("without 5", v.chains(223), 4);
      // three WRITERS of whom none has READ of the last ones of the others: a row for each of them
      due("of three WRITERS, six", rows("3>16 4>32 5>16 days 4:0 5>8 4>8 3>32").chains(63), 3);
      due("of three WRITERS, ten", rows("3>32 5>4 2>32 days 5:0 2:1 2>32 2>2 2>32 5>16 5>8 3>32 5>16").chains(1023), 3);
    });
    says("Promise 24", "CHAINS of a set (bits); NONE: bits of no LETTERS", () -> {
      CitingLetters x = new CitingLetters();
      due("of none", x.chains(0), 0);
      due("without LETTERS", x.chains(1), NONE);
      x = five();
      for (int no : new int[] {32, 33, 63, 1 << 30, -1, Integer.MIN_VALUE, Integer.MIN_VALUE | 1, Integer.MAX_VALUE}) due("chains(" + no + ")", x.chains(no), NONE);
      x = thirty();
      due("all 30", x.chains((1 << 30) - 1), 6);
      due("a 31st", x.chains(1 << 30), NONE);
      due("all 31", x.chains(Integer.MAX_VALUE), NONE);
      due("below 0", x.chains(-1), NONE);
      CitingLetters y = new CitingLetters();
      mails(y, 30, 0, 2);
      due("30 in one row", y.chains((1 << 30) - 1), 1);
    });
  }
}
