/** Days that go by, and what is read on them: Term 1, Promises 11, 12 and 15. */
final class DayBoundaries extends Sentences {
  static void all() { days(); comes(); reads(); read(); desk(); }

  private static void days() {
    says("Term 1", "DAYS 0 .. 999; TODAY is 0 at first", () -> {
      CitingLetters x = new CitingLetters();
      due("TODAY", x.count(0), 0);
      go(x, 990);
      due("to 999", x.days(9), 999);
      due("beyond", x.days(1), NONE);
      due("TODAY", x.count(0), 999);
    });
    says("Term 1", "A DAY goes by: TODAY is one more", () -> {
      CitingLetters x = new CitingLetters();
      for (int day = 1; day <= 400; day++) due("days(1)", x.days(1), day);
      due("days(99)", x.days(99), 499);
      due("days(99)", x.days(99), 598);
    });
    says("Promise 11", "So many DAYS go by (0 .. 99): TODAY", () -> {
      CitingLetters x = new CitingLetters();
      due("days(0)", x.days(0), 0);
      due("days(99)", x.days(99), 99);
      due("days(1)", x.days(1), 100);
      due("days(0)", x.days(0), 100);
    });
    says("Promise 11", "NONE, and nothing happens: no such number, beyond 999", () -> {
      CitingLetters x = new CitingLetters();
      mail(x, 0, 2);
      for (int n : new int[] {-1, 100, Integer.MIN_VALUE, Integer.MAX_VALUE}) due("days(" + n + ")", x.days(n), NONE);
      due("TODAY", x.count(0), 0);
      go(x, 996);
      mail(x, 0, 2);
      x.way(0, 1, 1);
      mail(x, 0, 2);
      due("days(4)", x.days(4), NONE);
      due("TODAY", x.count(0), 996);
      due("nothing came", x.count(3), 2);
      due("days(99)", x.days(99), NONE);
      due("days(3)", x.days(3), 999);
      due("days(0)", x.days(0), 999);
      due("days(1)", x.days(1), NONE);
    });
  }

  private static void comes() {
    says("Term 1", "first all COPIES that COME on it, by their numbers", () -> {
      CitingLetters x = with("read hand 1;answer 1 by 2;");
      mails(x, 2, 0, 6);
      x.lose(0);
      x.again(0, 0, 1);
      x.lose(1);
      x.again(0, 0, 2);
      x.days(5);
      due("the later one has the lesser COPY", x.desk(1, 0), 1);
      due("desk(1, 1)", x.desk(1, 1), 0);
      due("READ first", x.look(2, 4), 1);
      due("READ then", x.look(3, 4), 0);
    });
    says("Term 1", "HELD by its reader behind those HELD already", () -> {
      CitingLetters x = with("read hand 1;");
      mails(x, 3, 0, 2);
      x.late(0, 1);
      x.late(1, 2);
      x.days(5);
      due("the first to come", x.desk(1, 0), 2);
      x.days(2);
      due("behind it", x.desk(1, 1), 0);
      due("behind both", x.desk(1, 2), 1);
      x.read(1, 0);
      due("they move up", x.desk(1, 1), 1);
    });
    says("Term 1", "unless he holds it, has READ it, or wrote it", () -> {
      CitingLetters x = with("read hand 0 1;answer 1 by 2;");
      mail(x, 0, 6);
      x.again(0, 0, 1);
      x.again(0, 0, 2);
      x.days(5);
      due("twice on one DAY", x.count(4), 1);
      due("twice on one DAY, READ once", x.count(1), 2);
      x.again(0, 0, 1);
      x.again(0, 2, 0);
      x.again(0, 0, 2);
      x.days(5);
      due("he HOLDS it", x.desk(1, 1), NONE);
      due("he wrote it", x.desk(0, 0), 1);
      due("he wrote it", x.desk(0, 1), NONE);
      due("he has READ it", x.count(1), 2);
      x.read(1, 0);
      x.again(0, 0, 1);
      x.days(5);
      due("he has READ it by hand", x.desk(1, 0), NONE);
      due("it came nonetheless", x.copy(x.count(2) - 1, 3), 1);
    });
  }

  private static void reads() {
    says("Term 1", "Then WRITER by WRITER, 0 first", () -> {
      CitingLetters x = with("answer 1;");
      mail(x, 3, 55);
      x.days(5);
      int[] writer = {3, 0, 1, 2, 4, 5};
      for (int k = 0; k < 6; k++) due("WRITER of " + k, x.look(k, 0), writer[k]);
    });
    says("Term 1", "of those that he HOLDS the first one that his RULE lets is READ, and so on till it lets none", () -> {
      CitingLetters x = with("read first 1;answer 1 by 1;");
      mails(x, 4, 0, 2);
      mail(x, 2, 2);
      for (int c = 0; c < 3; c++) x.late(c, 3 - c);
      x.late(4, 3);
      x.days(7);
      due("HELD", x.count(4), 3);
      x.days(1);
      // held: 3, 2, 1, then 0 and 4: reads 0, then from the front again 1, 2, 3, then 4
      int[] answered = {0, 1, 2, 3, 4};
      for (int k = 0; k < 5; k++) due("look(" + (5 + k) + ", 4)", x.look(5 + k, 4), answered[k]);
      due("HELD", x.count(4), 0);
    });
    says("Term 1", "till it lets none", () -> {
      CitingLetters x = with("read first 1;");
      mails(x, 30, 0, 2);
      for (int c = 0; c < 29; c++) x.late(c, 29 - c);
      x.days(33);
      due("29 HELD", x.count(4), 29);
      x.days(1);
      due("30 READ on one DAY", x.count(5), 30);
    });
    says("Term 1", "(What he answers is posted on the same DAY.)", () -> {
      CitingLetters x = with("answer 1 by 1;");
      x.way(0, 1, 1);
      mail(x, 0, 2);
      x.days(1);
      due("DAY", x.look(1, 1), 1);
      due("COMES", x.copy(1, 2), 2);
      x.days(1);
      due("READ", x.readOn(0, 1), 2);
    });
  }

  private static void read() {
    says("Promise 12", "(whatever his RULE; he answers, too): how many he HOLDS still", () -> {
      for (String rule : "hand first answers seen".split(" ")) {
        CitingLetters x = with("read " + rule + " 1;answer 1 by 1;");
        mail(x, 0, 2);
        mail(x, 0, 2, 0);
        mail(x, 0, 2, 1);
        x.late(0, 9);
        x.days(5);
        due(rule + ": HELD", x.count(4), 2);
        due(rule + ": read(1, 2)", x.read(1, 2), 1);
        due(rule + ": read(1, 1)", x.read(1, 1), 0);
        due(rule + ": answers", x.look(3, 4), 2);
        due(rule + ": answers", x.look(4, 4), 1);
        due(rule + ": LETTERS", x.count(1), 5);
      }
    });
    says("Promise 12", "NONE: he doesn't hold it", () -> {
      CitingLetters x = with("read hand;");
      due("no LETTER", x.read(1, 0), NONE);
      mail(x, 0, 2);
      mail(x, 0, 4);
      due("UNDER WAY", x.read(1, 0), NONE);
      x.days(5);
      for (int no : new int[] {-1, 6, 32, Integer.MIN_VALUE, Integer.MAX_VALUE}) due("read(" + no + ", 0)", x.read(no, 0), NONE);
      for (int no : new int[] {-1, 2, 32, Integer.MIN_VALUE, Integer.MAX_VALUE}) due("read(1, " + no + ")", x.read(1, no), NONE);
      due("another HOLDS it", x.read(1, 1), NONE);
      due("he wrote it", x.read(0, 0), NONE);
      due("read(1, 0)", x.read(1, 0), 0);
      due("READ already", x.read(1, 0), NONE);
      due("READ", x.count(5), 1);
    });
  }

  private static void desk() {
    says("Promise 15", "NONE: there is none such", () -> {
      CitingLetters x = with("read hand;");
      due("HOLDS none", x.desk(1, 0), NONE);
      mails(x, 2, 0, 34);
      due("UNDER WAY", x.desk(1, 0), NONE);
      x.days(5);
      due("desk(1, 0)", x.desk(1, 0), 0);
      due("desk(5, 1)", x.desk(5, 1), 1);
      for (int k : new int[] {-1, 2, 3, 29, 30, Integer.MIN_VALUE, Integer.MAX_VALUE}) due("desk(1, " + k + ")", x.desk(1, k), NONE);
      for (int no : new int[] {-1, 6, 32, Integer.MIN_VALUE, Integer.MAX_VALUE}) due("desk(" + no + ", 0)", x.desk(no, 0), NONE);
      x.read(1, 0);
      due("the next moves up", x.desk(1, 0), 1);
      due("one fewer", x.desk(1, 1), NONE);
      due("two fewer", x.desk(1, 2), NONE);
      x.read(1, 1);
      for (int k = 0; k < 3; k++) due("none is left, desk(1, " + k + ")", x.desk(1, k), NONE);
    });
    says("Promise 15", "The k-th LETTER that a WRITER HOLDS", () -> {
      CitingLetters x = with("read hand;");
      mails(x, 30, 0, 2);
      x.days(5);
      due("the 30th", x.desk(1, 29), 29);
      due("none behind", x.desk(1, 30), NONE);
    });
  }
}
