/** Orders that fit, the pair to ask for, what hangs, the counts: Term 5 and Promises 35 to 41. */
final class OrderBoundaries extends Sentences {
  private static final int[] NO_LETTERS = {-1, 5, 30, 31, 32, Integer.MIN_VALUE, Integer.MAX_VALUE};
  private static final int[] NO_SETS = {32, 33, 1 << 30, -1, Integer.MIN_VALUE, Integer.MIN_VALUE | 3, Integer.MAX_VALUE};
  private static final int TWELVE = 4095, THIRTEEN = 8191;

  static void all() { ahead(); orders(); order(); first(); ask(); takenBack(); hangs(); count(); }

  private static void ahead() {
    says("Promise 35", "how many are; NONE: no such ones, both the same, there are 12", () -> {
      CitingLetters x = five();
      for (int k = 0; k < 5; k++) due("both the same", x.ahead(k, k), NONE);
      for (int no : NO_LETTERS) {
        due("ahead(0, " + no + ")", x.ahead(0, no), NONE);
        due("ahead(" + no + ", 0)", x.ahead(no, 0), NONE);
      }
      due("PAIRS TOLD", x.count(9), 0);
      for (int k = 1; k <= 12; k++) due("ahead(0, " + (1 + k % 4) + ")", x.ahead(0, 1 + k % 4), k);
      due("there are 12", x.ahead(1, 2), NONE);
      due("PAIRS TOLD", x.count(9), 12);
      due("the 13th doesn't count", x.orders(6), 2);
    });
    says("Promise 35", "or it would go against BEFORE and those told (all together)", () -> {
      CitingLetters x = five();
      due("against BEFORE", x.ahead(3, 0), NONE);
      due("with BEFORE", x.ahead(0, 3), 1);
      due("APART", x.ahead(3, 4), 2);
      due("against one told", x.ahead(4, 3), NONE);
      due("against one told and BEFORE", x.ahead(4, 0), NONE);
      mail(x, 3, 32);
      due("against BEFORE, one told and BEFORE", x.ahead(5, 1), NONE);
      due("what was refused isn't told", x.count(9), 2);
      due("with all", x.ahead(1, 5), 3);
      due("one apart from those", x.ahead(2, 1), 4);
      due("against it", x.ahead(1, 2), NONE);
    });
    says("Promise 35", "it would go against BEFORE", () -> {
      CitingLetters x = thirty();
      for (int k = 0; k < 24; k++) due("ahead(" + (k + 6) + ", " + k + ")", x.ahead(k + 6, k), NONE);
      due("the last of 0 ahead of the first of 5", x.ahead(24, 5), 1);
      due("the last of 5 ahead of the first of 0", x.ahead(29, 0), NONE);
      due("the first of 5 ahead of the first of 0", x.ahead(5, 0), NONE);
      due("the first of 0 ahead of the last of 5", x.ahead(0, 29), 2);
    });
    says("Promise 35", "those told (all together)", () -> {
      CitingLetters x = new CitingLetters();
      for (int w = 0; w < 6; w++) mail(x, w, 63 ^ 1 << w);
      for (int w = 5; w > 0; w--) due("ahead(" + w + ", " + (w - 1) + ")", x.ahead(w, w - 1), 6 - w);
      due("the round of all six", x.ahead(0, 5), NONE);
      due("a shorter one", x.ahead(0, 2), NONE);
      due("along it", x.ahead(5, 0), 6);
      due("one order is left", x.orders(63), 1);
      due("its first", x.order(63, 0, 0), 5);
    });
  }

  private static CitingLetters thirteen() {
    CitingLetters x = new CitingLetters();
    for (int k = 0; k < 13; k++) mail(x, k % 6, 1 << (k + 1) % 6);
    return x;
  }

  private static void orders() {
    says("Term 5", "each stands ahead of those that it is BEFORE, and a ahead of b for each PAIR TOLD", () -> {
      CitingLetters x = five();
      due("orders(31)", x.orders(31), 10);
      due("orders(22)", x.orders(22), 6);
      x.ahead(4, 1);
      due("4 ahead of 1", x.orders(31), 5);
      x.ahead(2, 4);
      due("2 ahead of 4", x.orders(31), 1);
    });
    says("Term 5", "(at most 12; told as known from copies) both in the set", () -> {
      CitingLetters x = five();
      x.ahead(4, 1);
      x.ahead(2, 4);
      due("both in the set", x.orders(20), 1);
      due("one of each in the set", x.orders(6), 2);
      due("BEFORE holds over what isn't in the set", x.orders(9), 1);
    });
    says("Term 5", "ORDERS of a set of LETTERS, 12 at most", () -> {
      CitingLetters x = new CitingLetters();
      mails(x, 30, 0, 2);
      int twelve = TWELVE << 18, thirteen = THIRTEEN << 17;
      due("orders of 12", x.orders(twelve), 1);
      due("orders of 13", x.orders(thirteen), NONE);
      for (int p = 0; p < 12; p++) due("order of 12", x.order(twelve, 0, p), 18 + p);
      due("a 13th place", x.order(twelve, 0, 12), NONE);
      due("order of 13", x.order(thirteen, 0, 0), NONE);
      due("first of 12", x.first(twelve, 18, 29), 1);
      due("first of 13", x.first(thirteen, 18, 29), NONE);
      due("ask of 12", x.ask(twelve), 32 * 18 + 19);
      due("ask of 13", x.ask(thirteen), NONE);
      due("every other one", x.orders(0b101010_101010_101010_101010), 1);
    });
    says("Promise 36", "How many ORDERS a set (bits) has (1 of none)", () -> {
      due("of none, without LETTERS", new CitingLetters().orders(0), 1);
      CitingLetters x = five();
      due("of none", x.orders(0), 1);
      due("of one", x.orders(16), 1);
      due("of two APART", x.orders(6), 2);
      due("of two in a row", x.orders(3), 1);
    });
    says("Promise 36", "NONE: bits of no LETTERS, more than 12", () -> {
      CitingLetters x = five();
      for (int no : NO_SETS) due("orders(" + no + ")", x.orders(no), NONE);
      x = thirteen();
      due("12", x.orders(TWELVE), 7484400);
      due("13", x.orders(THIRTEEN), NONE);
      due("12 of 13", x.orders(THIRTEEN - 1), 7484400);
      x = thirty();
      due("the last 12", x.orders(TWELVE << 18), 7484400);
      due("30", x.orders((1 << 30) - 1), NONE);
      due("13 of 30", x.orders(THIRTEEN << 17), NONE);
      due("below 0", x.orders(-1), NONE);
      due("a 31st", x.orders(1 << 30), NONE);
    });
  }

  private static void order() {
    says("Term 5", "The k-th by numbers", () -> {
      CitingLetters x = five();
      int[][] want = {{0, 1, 2, 3, 4}, {0, 1, 2, 4, 3}, {0, 1, 4, 2, 3}, {0, 2, 1, 3, 4}, {0, 2, 1, 4, 3},
          {0, 2, 4, 1, 3}, {0, 4, 1, 2, 3}, {0, 4, 2, 1, 3}, {4, 0, 1, 2, 3}, {4, 0, 2, 1, 3}};
      for (int k = 0; k < 10; k++) for (int p = 0; p < 5; p++) due("order(31, " + k + ", " + p + ")", x.order(31, k, p), want[k][p]);
      x = thirteen();
      int[] first = {0, 1, 2, 3, 4, 5, 6, 7, 8, 9, 10, 11}, last = {5, 11, 4, 10, 3, 9, 2, 8, 1, 7, 0, 6};
      for (int p = 0; p < 12; p++) {
        due("the first of twelve", x.order(TWELVE, 0, p), first[p]);
        due("the last of twelve", x.order(TWELVE, 7484399, p), last[p]);
      }
    });
    says("Promise 37", "NONE: there is none such", () -> {
      CitingLetters x = five();
      for (int k : new int[] {-1, 10, Integer.MIN_VALUE, Integer.MAX_VALUE}) due("order(31, " + k + ", 0)", x.order(31, k, 0), NONE);
      for (int p : new int[] {-1, 5, 12, 32, Integer.MIN_VALUE, Integer.MAX_VALUE}) due("order(31, 0, " + p + ")", x.order(31, 0, p), NONE);
      for (int no : NO_SETS) due("order(" + no + ", 0, 0)", x.order(no, 0, 0), NONE);
      due("of none", x.order(0, 0, 0), NONE);
      due("of one", x.order(16, 0, 0), 4);
      due("a second of one", x.order(16, 1, 0), NONE);
      due("of one, a second place", x.order(16, 0, 1), NONE);
      due("of 13", thirteen().order(THIRTEEN, 0, 0), NONE);
      due("one too many of 12", thirteen().order(TWELVE, 7484400, 0), NONE);
    });
  }

  private static void first() {
    says("Promise 38", "How many ORDERS of a set have a ahead of b", () -> {
      CitingLetters x = five();
      due("half of them", x.first(31, 1, 2), 5);
      due("most of them", x.first(31, 4, 3), 8);
      due("the others", x.first(31, 3, 4), 2);
      due("none of them", x.first(31, 3, 0), 0);
      due("all of them", x.first(31, 0, 3), 10);
      due("orders(31) stays", x.orders(31), 10);
      x.ahead(2, 1);
      due("against one told", x.first(31, 1, 2), 0);
      due("with one told", x.first(31, 2, 1), 5);
    });
    says("Promise 38", "NONE as of orders(), or a, b aren't two of the set", () -> {
      CitingLetters x = five();
      for (int no : NO_SETS) due("first(" + no + ", 0, 1)", x.first(no, 0, 1), NONE);
      due("of 13", thirteen().first(THIRTEEN, 0, 1), NONE);
      due("both the same", x.first(31, 2, 2), NONE);
      due("a isn't of the set", x.first(30, 0, 1), NONE);
      due("b isn't of the set", x.first(15, 1, 4), NONE);
      due("of none", x.first(0, 0, 1), NONE);
      for (int no : NO_LETTERS) {
        due("first(31, " + no + ", 0)", x.first(31, no, 0), NONE);
        due("first(31, 0, " + no + ")", x.first(31, 0, no), NONE);
      }
    });
  }

  private static void ask() {
    says("Term 5", "such that the fewer of both (orders with a ahead, orders with b ahead) are most", () -> {
      CitingLetters x = five();
      x.ahead(1, 2);
      // of five orders 1 is ahead of 4 in three, 2 in two, 0 in four, 3 in one
      due("ask(31)", x.ask(31), 32 * 1 + 4);
      due("ask(29), without 1: 2 ahead of 4 in two of four", x.ask(29), 32 * 2 + 4);
      due("ask(25), without 1 and 2: one of three, both", x.ask(25), 32 * 0 + 4);
    });
    says("Term 5", "a lesser than b", () -> {
      CitingLetters x = five();
      x.ahead(2, 1);
      due("2 is ahead of 1", x.ask(6), 32 * 1 + 2);
      due("and of 4 or not", x.ask(22), 32 * 1 + 4);
      due("by their numbers, not their WRITERS", thirty().ask(1 << 24 | 1 << 5), 32 * 5 + 24);
    });
    says("Term 5", "of several the first by a, then b", () -> {
      CitingLetters x = five();
      due("1 and 2, 1 and 4, 2 and 4 halve them", x.ask(31), 32 * 1 + 2);
      due("0 and 4, 3 and 4", x.ask(25), 32 * 0 + 4);
      due("none parts them: the first pair", x.ask(11), 32 * 0 + 1);
      due("none parts them: the only pair", x.ask(10), 32 * 1 + 3);
      due("twelve", thirteen().ask(TWELVE), 32 * 0 + 1);
      due("the last of thirty", thirty().ask(3 << 28), 32 * 28 + 29);
    });
    says("Promise 39", "32 a and b; NONE as of orders(), or fewer than two", () -> {
      CitingLetters x = five();
      for (int no : NO_SETS) due("ask(" + no + ")", x.ask(no), NONE);
      due("of 13", thirteen().ask(THIRTEEN), NONE);
      due("of none", x.ask(0), NONE);
      for (int k = 0; k < 5; k++) due("of one", x.ask(1 << k), NONE);
      due("of two", x.ask(3), 1);
    });
  }

  private static void takenBack() {
    says("Term 5", "TAKEN BACK is a LETTER that one of KIND 2 ANSWERS", () -> {
      CitingLetters x = new CitingLetters();
      mail(x, 0, 2);
      due("none ANSWERS it", x.hangs(0, 0), NONE);
      x.write(0, 2, 1, 0, NONE);
      mail(x, 0, 2, 0);
      due("a plain one and a CLAIM ANSWER it", x.hangs(0, 0), NONE);
      takeBack(x, 0, 2, 1);
      due("another was TAKEN BACK", x.hangs(0, 1), NONE);
      due("it was", x.hangs(1, 0), 8);
      takeBack(x, 0, 2, 3);
      due("one that takes back was", x.hangs(3, 1), 16);
      due("what hangs through it", x.hangs(1, 0), 8 + 16);
      due("the last wasn't", x.hangs(4, 0), NONE);
    });
  }

  private static void hangs() {
    says("Term 5", "by ANSWERS: those that ANSWER it or one that HANGS so; else those that it is BEFORE (the one that takes it back with them, both ways)", () -> {
      CitingLetters x = five();
      takeBack(x, 0, 4, 0);
      due("by ANSWERS", x.hangs(0, 0), 4 + 8 + 32);
      due("by BEFORE", x.hangs(0, 1), 2 + 4 + 8 + 32);
      takeBack(x, 3, 16, 4);
      due("the one that takes it back alone, by ANSWERS", x.hangs(4, 0), 64);
      due("the one that takes it back alone, by BEFORE", x.hangs(4, 1), 64);
      x.burn(2);
      due("through what was BURNT", x.hangs(0, 0), 4 + 8 + 32);
      CitingLetters y = new CitingLetters();
      mail(y, 0, 2);
      for (int k = 1; k < 29; k++) mail(y, 0, 2, k - 1);
      takeBack(y, 0, 2, 0);
      // 0 and 1 by w0 to w1, who ANSWERS 1 alone; that is answered by w2
      CitingLetters z = new CitingLetters();
      mails(z, 2, 0, 2);
      z.days(5);
      mail(z, 1, 4, 1);
      z.days(5);
      mail(z, 2, 1, 2);
      takeBack(z, 0, 2, 0);
      due("nothing else ANSWERS it", z.hangs(0, 0), 16);
      due("it is BEFORE all others", z.hangs(0, 1), 2 + 4 + 8 + 16);
      due("29 of thirty, by ANSWERS", y.hangs(0, 0), (1 << 30) - 2);
      due("29 of thirty, by BEFORE", y.hangs(0, 1), (1 << 30) - 2);
      due("the last wasn't TAKEN BACK", y.hangs(29, 0), NONE);
    });
    says("Promise 40", "by ANSWERS (what 0), by BEFORE (1); NONE: it wasn't TAKEN BACK, no such ones", () -> {
      due("without LETTERS", new CitingLetters().hangs(0, 0), NONE);
      CitingLetters x = five();
      takeBack(x, 3, 16, 4);
      for (int k = 0; k < 4; k++) due("hangs(" + k + ", 0)", x.hangs(k, 0), NONE);
      for (int what : new int[] {-1, 2, Integer.MIN_VALUE, Integer.MAX_VALUE}) due("hangs(4, " + what + ")", x.hangs(4, what), NONE);
      for (int no : new int[] {-1, 6, 30, 32, Integer.MIN_VALUE, Integer.MAX_VALUE}) {
        for (int what = 0; what < 2; what++) due("hangs(" + no + ", " + what + ")", x.hangs(no, what), NONE);
      }
    });
  }

  private static void count() {
    says("Promise 41", "NONE for another what", () -> {
      CitingLetters x = five();
      for (int no : new int[] {-1, 10, 32, Integer.MIN_VALUE, Integer.MAX_VALUE}) due("count(" + no + ")", x.count(no), NONE);
    });
    says("Promise 41", "0 TODAY, 1 LETTERS, 2 COPIES, 3 UNDER WAY, 4 HELD by all together, 5 READ by all together, 6 LEFT, 7 LINES of answer and round, 8 KNOTS, 9 PAIRS TOLD", () -> {
      CitingLetters x = with("read hand 1;read first 2;answer 0+1=2;round 0 by 1;");
      int[] none = {0, 0, 0, 0, 0, 0, 0, 2, 6, 0};
      for (int what = 0; what < 10; what++) due("without LETTERS, count(" + what + ")", x.count(what), none[what]);
      mail(x, 0, 14);
      mail(x, 0, 6);
      x.lose(1);
      x.late(3, 2);
      x.ahead(0, 1);
      x.burn(0);
      x.days(5);
      int[] want = {5, 2, 5, 1, 2, 1, 1, 2, 6, 1};
      for (int what = 0; what < 10; what++) due("count(" + what + ")", x.count(what), want[what]);
      x.days(2);
      due("HELD by all together, for ever too", x.count(4), 3);
      due("UNDER WAY", x.count(3), 0);
    });
    says("Promise 41", "1 LETTERS, 2 COPIES", () -> {
      CitingLetters x = new CitingLetters();
      mails(x, 30, 0, 62);
      int[] full = {0, 30, 150, 150, 0, 0, 30, 0, 0, 0};
      for (int what = 0; what < 10; what++) due("full, count(" + what + ")", x.count(what), full[what]);
      x.days(5);
      due("UNDER WAY", x.count(3), 0);
      due("READ by all together", x.count(5), 150);
    });
  }
}
