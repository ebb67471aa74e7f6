/** What waits, for ever or not, and who had read what by when: Term 4 and Promises 25 to 30. */
final class DeskBoundaries extends Sentences {
  private static final int[] NO_WRITERS = {-1, 6, 31, 32, Integer.MIN_VALUE, Integer.MAX_VALUE};

  static void all() { waits(); ever(); has(); readOn(); spread(); everybody(); }

  /** Three LETTERS from 0 to 1 and 2; to each of them the first is LOST. */
  private static CitingLetters three(String text) {
    CitingLetters x = with(text);
    mails(x, 3, 0, 6);
    x.lose(0);
    x.lose(1);
    return x;
  }

  private static void waits() {
    says("Term 4", "A HELD LETTER WAITS for those LETTERS whose not being READ its RULE looks at", () -> {
      CitingLetters x = three("read first 1;read seen 2;");
      x.days(5);
      due("first: one LOST, one HELD", x.waits(1, 2), 3);
      due("first", x.waits(1, 1), 1);
      due("seen", x.waits(2, 2), 3);
      told(x, "read answers 1;read comes 2;");
      due("answers: it ANSWERS none", x.waits(1, 2), 0);
      due("comes", x.waits(2, 2), 0);
    });
    says("Term 4", "(Of hand none WAITS.)", () -> {
      CitingLetters x = three("read hand;");
      x.days(5);
      for (int w = 1; w <= 2; w++) {
        due("waits(" + w + ", 2)", x.waits(w, 2), 0);
        due("ever(" + w + ")", x.ever(w), 0);
      }
      told(x, "read first;");
      due("of first it does", x.waits(1, 2), 3);
      due("of first for ever", x.ever(1), 6);
    });
    says("Promise 25", "NONE: he doesn't hold it", () -> {
      CitingLetters x = three("read first 1;read seen 2;");
      due("without LETTERS", new CitingLetters().waits(0, 0), NONE);
      due("UNDER WAY", x.waits(1, 2), NONE);
      x.days(5);
      due("LOST", x.waits(1, 0), NONE);
      due("his own", x.waits(0, 2), NONE);
      due("not to him", x.waits(3, 2), NONE);
      for (int no : NO_WRITERS) due("waits(" + no + ", 2)", x.waits(no, 2), NONE);
      for (int no : new int[] {-1, 3, 30, 32, 34, Integer.MIN_VALUE, Integer.MAX_VALUE}) due("waits(1, " + no + ")", x.waits(1, no), NONE);
      x.read(1, 2);
      due("READ", x.waits(1, 2), NONE);
    });
  }

  private static void ever() {
    says("Term 4", "WAITS for one that its reader doesn't hold and of which no COPY to him is UNDER WAY", () -> {
      CitingLetters x = with("read first 1;");
      mails(x, 2, 0, 6);
      x.late(0, 99);
      x.days(5);
      due("a COPY is UNDER WAY", x.ever(1), 0);
      x.lose(0);
      due("it is LOST", x.ever(1), 2);
      x.again(0, 0, 3);
      due("one to another is UNDER WAY", x.ever(1), 2);
      x.again(0, 2, 1);
      due("one to him is UNDER WAY", x.ever(1), 0);
      x.lose(5);
      due("it is LOST too", x.ever(1), 2);
    });
    says("Term 4", "no COPY to him is UNDER WAY", () -> {
      CitingLetters x = with("read first 1;");
      mails(x, 4, 0, 2);
      x.late(0, 9);
      x.late(1, 9);
      x.late(2, 90);
      x.days(5);
      due("WAITS for three", x.waits(1, 3), 7);
      due("of each one is UNDER WAY", x.ever(1), 0);
      x.lose(1);
      due("but of the second", x.ever(1), 8);
      x.again(1, 0, 1);
      x.again(2, 0, 1);
      due("of each again", x.ever(1), 0);
      x.lose(2);
      due("of two one is LOST", x.ever(1), 0);
    });
    says("Term 4", "its reader doesn't hold", () -> {
      CitingLetters x = with("read hand;");
      mails(x, 2, 0, 2);
      x.days(5);
      told(x, "read first;");
      due("WAITS for one that he HOLDS", x.waits(1, 1), 1);
      due("not for ever", x.ever(1), 0);
    });
    says("Term 4", "or for one that he HOLDS FOR EVER", () -> {
      CitingLetters x = with("read answers 1;");
      mail(x, 0, 2);
      for (int k = 0; k < 5; k++) mail(x, 0, 2, k);
      mail(x, 0, 2);
      x.lose(0);
      x.days(5);
      for (int k = 1; k < 6; k++) due("waits(1, " + k + ")", x.waits(1, k), 1 << k - 1);
      due("all that lead to the LOST one", x.ever(1), 62);
      due("that which ANSWERS none is READ", x.readOn(1, 6), 5);
      x.again(0, 0, 1);
      due("none any more", x.ever(1), 0);
      x.read(1, 3);
      x.lose(7);
      due("up to what he READ by hand", x.ever(1), 6);
    });
    says("Promise 26", "Those that a WRITER HOLDS FOR EVER (bits); NONE: no such WRITER", () -> {
      CitingLetters x = three("read first 1;");
      for (int no : NO_WRITERS) due("ever(" + no + ")", x.ever(no), NONE);
      for (int w = 0; w < 6; w++) due("HOLDS none", x.ever(w), 0);
      x.days(5);
      due("ever(1)", x.ever(1), 6);
      due("ever(5)", x.ever(5), 0);
    });
  }

  private static void has() {
    says("Promise 27", "(bits of WRITERS who have written or READ it); NONE: no such LETTER", () -> {
      CitingLetters x = with("read hand 2;");
      due("without LETTERS", x.has(0), NONE);
      mail(x, 0, 38);
      due("its WRITER", x.has(0), 1);
      x.days(5);
      due("not who HOLDS it", x.has(0), 1 + 2 + 32);
      x.read(2, 0);
      due("who has READ it by hand", x.has(0), 1 + 2 + 4 + 32);
      for (int no : new int[] {-1, 1, 30, 32, Integer.MIN_VALUE, Integer.MAX_VALUE}) due("has(" + no + ")", x.has(no), NONE);
      go(x, 989);
      mail(x, 4, 2);
      due("its WRITER, late in time", x.has(1), 16);
      due("on the last DAY", x.days(5), 999);
      due("who has READ it on the last DAY", x.has(1), 16 + 2);
    });
  }

  private static void readOn() {
    says("Promise 28", "(wrote it, if it is his); NONE: he hasn't, no such ones", () -> {
      CitingLetters x = with("read hand 2;");
      due("without LETTERS", x.readOn(0, 0), NONE);
      mail(x, 0, 6);
      due("wrote it on day 0", x.readOn(0, 0), 0);
      due("UNDER WAY", x.readOn(1, 0), NONE);
      go(x, 7);
      mail(x, 5, 1);
      due("wrote it on day 7", x.readOn(5, 1), 7);
      due("READ it on the DAY it came", x.readOn(1, 0), 5);
      due("HOLDS it", x.readOn(2, 0), NONE);
      x.read(2, 0);
      due("READ it by hand", x.readOn(2, 0), 7);
      due("not to him", x.readOn(3, 0), NONE);
      for (int no : NO_WRITERS) due("readOn(" + no + ", 0)", x.readOn(no, 0), NONE);
      for (int no : new int[] {-1, 2, 30, 32, Integer.MIN_VALUE, Integer.MAX_VALUE}) due("readOn(0, " + no + ")", x.readOn(0, no), NONE);
    });
  }

  private static void spread() {
    says("Promise 29", "Who had written or READ a LETTER by the end of a DAY", () -> {
      CitingLetters x = new CitingLetters();
      x.way(0, 2, 7);
      x.days(1);
      mail(x, 0, 6);
      x.days(20);
      int[] day = {0, 1, 5, 6, 7, 8, 9, 21, 22, 999}, want = {0, 1, 1, 3, 3, 7, 7, 7, 7, 7};
      for (int k = 0; k < day.length; k++) due("spread(0, " + day[k] + ")", x.spread(0, day[k]), want[k]);
    });
    says("Promise 29", "(bits); NONE: no such ones", () -> {
      CitingLetters x = new CitingLetters();
      due("without LETTERS", x.spread(0, 0), NONE);
      mail(x, 0, 2);
      for (int no : new int[] {-1, 1000, Integer.MIN_VALUE, Integer.MAX_VALUE}) due("spread(0, " + no + ")", x.spread(0, no), NONE);
      for (int no : new int[] {-1, 1, 30, 32, Integer.MIN_VALUE, Integer.MAX_VALUE}) due("spread(" + no + ", 0)", x.spread(no, 0), NONE);
      due("the first DAY", x.spread(0, 0), 1);
      due("the last DAY", x.spread(0, 999), 1);
    });
  }

  private static void everybody() {
    says("Promise 30", "The first DAY by whose end all to whom a LETTER went had READ it", () -> {
      CitingLetters x = with("read hand 2;");
      mail(x, 0, 38);
      x.late(2, 2);
      x.days(4);
      due("none has", x.all(0), NONE);
      x.days(3);
      due("one HOLDS it", x.all(0), NONE);
      x.days(4);
      x.read(2, 0);
      due("the last has READ it", x.all(0), 11);
      x.again(0, 0, 3);
      due("one to whom a COPY was posted again", x.all(0), 11);
      x.days(20);
      due("later DAYS", x.all(0), 11);
      mail(x, 5, 1);
      x.days(5);
      due("one alone", x.all(1), 36);
    });
    says("Promise 30", "NONE: they haven't, no such LETTER", () -> {
      CitingLetters x = new CitingLetters();
      due("without LETTERS", x.all(0), NONE);
      mail(x, 0, 6);
      x.lose(0);
      x.days(99);
      due("one never got it", x.all(0), NONE);
      for (int no : new int[] {-1, 1, 30, 32, Integer.MIN_VALUE, Integer.MAX_VALUE}) due("all(" + no + ")", x.all(no), NONE);
    });
  }
}
