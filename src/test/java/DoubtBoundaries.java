/** What is left, who could have known of what, forged lists: Term 4 and Promises 31 to 34. */
final class DoubtBoundaries extends Sentences {
  private static final int[] NO_LETTERS = {-1, 5, 30, 31, 32, Integer.MIN_VALUE, Integer.MAX_VALUE};
  private static final int[] NO_WRITERS = {-1, 6, 31, 32, Integer.MIN_VALUE, Integer.MAX_VALUE};

  static void all() { burn(); sure(); mayBe(); could(); tooMuch(); lacks(); goesBack(); forged(); forgers(); }

  private static void burn() {
    says("Promise 31", "how many are LEFT; NONE: no such one, or it was", () -> {
      due("without LETTERS", new CitingLetters().burn(0), NONE);
      CitingLetters x = five();
      for (int no : NO_LETTERS) due("burn(" + no + ")", x.burn(no), NONE);
      for (int k = 0; k < 5; k++) {
        due("burn(" + k + ")", x.burn(k), 4 - k);
        due("it was", x.burn(k), NONE);
      }
      due("LEFT", x.count(6), 0);
      due("a new one is LEFT", mail(x, 0, 2), 5);
      due("LEFT", x.count(6), 1);
      due("burn(5)", x.burn(5), 0);
    });
  }

  private static void sure() {
    says("Term 4", "2 SURE: by ANSWERS through LEFT ones alone", () -> {
      CitingLetters x = new CitingLetters();
      mail(x, 0, 2);
      mail(x, 0, 2, 0);
      mail(x, 0, 2, 0);
      x.write(0, 2, 0, 1, 2);
      mail(x, 0, 2, 3);
      due("straight on", x.could(0, 1), 2);
      due("through others", x.could(0, 4), 2);
      due("the second that it ANSWERS", x.could(2, 4), 2);
      x.burn(1);
      due("another way is LEFT", x.could(0, 4), 2);
      x.burn(2);
      due("none is LEFT", x.could(0, 4), 1);
      due("behind what was BURNT", x.could(3, 4), 2);
      due("backwards", x.could(4, 3), 0);
      x.burn(3);
      due("APART by ANSWERS", x.could(0, 4), 1);
    });
    says("Term 4", "SURE: by ANSWERS", () -> {
      for (int lesser = 0; lesser < 2; lesser++) {
        CitingLetters x = new CitingLetters();
        mail(x, 0, 2);
        mail(x, 0, 2, 0);
        mail(x, 0, 2);
        x.write(0, 2, 0, 1 + lesser, 2 - lesser);
        due("through the lesser of two", x.could(0, 3), 2);
        due("to the greater of two", x.could(2, 3), 2);
        due("to one apart", x.could(0, 2), 1);
      }
    });
  }

  private static void mayBe() {
    says("Term 4", "written at least so many DAYS ahead of b as the least sum of WAYS from its WRITER to b's", () -> {
      CitingLetters x = new CitingLetters();
      mail(x, 0, 2);
      x.days(4);
      mail(x, 1, 1);
      x.days(1);
      mail(x, 1, 1);
      due("a DAY too few", x.could(0, 1), 0);
      due("just so many", x.could(0, 2), 1);
      due("backwards", x.could(2, 0), 0);
      mail(x, 0, 4);
      due("on one DAY", x.could(2, 3), 0);
      due("on one DAY", x.could(3, 2), 0);
      x.way(0, 1, 6);
      due("of the WAYS that are told now", x.could(0, 2), 0);
      x.way(0, 1, 4);
      due("of the WAYS that are told now", x.could(0, 1), 1);
    });
    says("Term 4", "the least sum of WAYS from its WRITER to b's", () -> {
      CitingLetters x = new CitingLetters();
      mail(x, 0, 2);
      x.days(5);
      mail(x, 1, 1);
      x.way(0, 1, 30);
      due("over no other: 10", x.could(0, 1), 0);
      x.way(0, 3, 1);
      x.way(3, 1, 4);
      due("over one", x.could(0, 1), 1);
      x.way(3, 1, 5);
      due("over one, a DAY more", x.could(0, 1), 0);
      x.way(3, 4, 1);
      x.way(4, 2, 1);
      x.way(2, 5, 1);
      x.way(5, 1, 1);
      due("over four", x.could(0, 1), 1);
      x.way(1, 5, 2);
      due("over four, a DAY more", x.could(0, 1), 0);
    });
    says("Term 4", "the least sum of WAYS", () -> {
      for (int over = 0; over < 6; over++) {
        int from = (over + 1) % 6, to = (over + 5) % 6;
        CitingLetters x = new CitingLetters();
        mail(x, from, 1 << over);
        x.days(4);
        mail(x, to, 1 << over);
        due("from " + from + " to " + to, x.could(0, 1), 0);
        x.way(from, over, 3);
        x.way(over, to, 1);
        due("from " + from + " over " + over + " to " + to, x.could(0, 1), 1);
        due("a FORGED list", x.forged(to, 4, 1 << 5 * from | 1 << 5 * to), 0);
        due("a DAY ahead of it", x.forged(to, 3, 1 << 5 * from | 1 << 5 * to), 1);
      }
    });
    says("Term 4", "(0 for one WRITER: written ahead of it, then)", () -> {
      CitingLetters x = new CitingLetters();
      mails(x, 2, 0, 2);
      due("on one DAY", x.could(0, 1), 1);
      due("on one DAY, backwards", x.could(1, 0), 0);
      x.days(1);
      mail(x, 0, 2);
      due("a DAY ahead", x.could(0, 2), 1);
      due("a DAY behind", x.could(2, 0), 0);
    });
  }

  private static void could() {
    says("Term 4", "LEFT are LETTERS that weren't BURNT. COULD of a, b (both LEFT, unlike ones)", () -> {
      CitingLetters x = new CitingLetters();
      mails(x, 30, 0, 2);
      due("LEFT", x.count(6), 30);
      due("burn(29)", x.burn(29), 29);
      due("burn(0)", x.burn(0), 28);
      due("LEFT", x.count(6), 28);
      due("LETTERS", x.count(1), 30);
      due("a was BURNT", x.could(0, 1), NONE);
      due("b was BURNT", x.could(1, 29), NONE);
      due("both LEFT", x.could(1, 28), 1);
      due("both were BURNT", x.could(0, 29), NONE);
      due("BURNT, and BEFORE still", x.before(0, 29), 1);
    });
    says("Promise 32", "COULD; NONE: no such ones, both the same, or one was BURNT", () -> {
      CitingLetters x = five();
      for (int k = 0; k < 5; k++) due("both the same", x.could(k, k), NONE);
      for (int no : NO_LETTERS) {
        due("could(0, " + no + ")", x.could(0, no), NONE);
        due("could(" + no + ", 0)", x.could(no, 0), NONE);
      }
      x.burn(2);
      due("a was BURNT", x.could(2, 3), NONE);
      due("b was BURNT", x.could(0, 2), NONE);
      due("neither was", x.could(0, 3), 1);
    });
  }

  private static void tooMuch() {
    says("Term 4", "1 TOO MUCH: for some v not w more than LETTERS of v written by d less the least sum of WAYS from v to w", () -> {
      CitingLetters x = five();
      due("none by DAY -1", x.forged(4, 4, list(1)), 1);
      due("two by DAY 0", x.forged(4, 5, list(2)), 0);
      due("three by DAY 0", x.forged(4, 5, list(3)), 1);
      due("none of 1 by DAY 4", x.forged(4, 9, list(1, 1)), 1);
      due("one of 1 by DAY 5", x.forged(4, 10, list(1, 1)), 0);
      due("two of 1 by DAY 5", x.forged(4, 10, list(1, 2)), 1);
      x.way(1, 5, 2);
      x.way(5, 4, 2);
      due("the least sum is over another", x.forged(4, 9, list(1, 1)), 0);
      due("a DAY too few", x.forged(4, 8, list(1, 1)), 1);
      due("of the last WRITER", x.forged(4, 10, list(0, 0, 0, 0, 0, 1)), 1);
    });
    says("Term 4", "or for w more than his by d and one", () -> {
      CitingLetters x = five();
      due("his two and one", x.forged(0, 0, list(3)), 0);
      due("one more", x.forged(0, 0, list(4)), 1);
      due("his none and one", x.forged(4, 10, list(0, 0, 0, 0, 1)), 0);
      due("one more", x.forged(4, 10, list(0, 0, 0, 0, 2)), 1);
      due("his none by DAY 9, and one", x.forged(2, 9, list(0, 0, 1)), 0);
      due("his one by DAY 10, not yet by DAY 9", x.forged(2, 9, list(2, 0, 2)), 1);
      due("his one by DAY 10, and one", x.forged(2, 10, list(2, 1, 2)), 0);
      due("one more", x.forged(2, 10, list(2, 1, 3)), 1);
      CitingLetters y = new CitingLetters();
      mails(y, 30, 0, 2);
      y.days(5);
      due("his 30 and one", y.forged(0, 0, list(31)), 0);
      due("another's 30", y.forged(1, 5, list(30)), 0);
      due("another's 30 and one", y.forged(1, 5, list(31)), 1);
    });
  }

  private static void lacks() {
    says("Term 4", "2 LACKS: for some v with a NUMBER k above 0, the k-th LETTER of v", () -> {
      CitingLetters x = five();
      x.days(5);
      due("the first of 1 knew one of 0", x.forged(4, 15, list(0, 1)), 2);
      due("just as many", x.forged(4, 15, list(1, 1)), 0);
      due("more", x.forged(4, 15, list(2, 1)), 0);
      due("NUMBER 0: nothing is looked at", x.forged(4, 15, 0), 0);
      due("the first of 2 knew two of 0", x.forged(4, 15, list(1, 1, 1)), 2);
      due("the first of 2 knew one of 1", x.forged(4, 15, list(2, 0, 1)), 2);
      due("just as many", x.forged(4, 15, list(2, 1, 1)), 0);
      due("the first of 0 alone knew less", x.forged(4, 15, list(1)), 0);
    });
    says("Term 4", "for some v with a NUMBER k above 0", () -> {
      for (int v = 0; v < 6; v++) {
        int u = (v + 1) % 6, w = (v + 2) % 6;
        CitingLetters x = new CitingLetters();
        mail(x, u, 1 << v);
        x.days(5);
        mail(x, v, 1 << u);
        x.days(5);
        due("LACKS what " + v + " knew of " + u, x.forged(w, 10, 1 << 5 * v), 2);
        due("as much as " + v + " knew of " + u, x.forged(w, 10, 1 << 5 * v | 1 << 5 * u), 0);
        due(v + " himself GOES BACK", x.forged(v, 10, 2 << 5 * v), 3);
        due(v + " himself goes on", x.forged(v, 10, 2 << 5 * v | 1 << 5 * u), 0);
      }
    });
    says("Term 4", "(of w: if it was written by d) has a greater NUMBER for some u", () -> {
      CitingLetters x = five();
      due("a DAY ahead of it", x.forged(2, 9, list(0, 0, 1)), 0);
      due("on its DAY", x.forged(2, 10, list(0, 0, 1)), 2);
      due("as it is", x.forged(2, 10, list(2, 1, 1)), 0);
      due("his next one isn't there", x.forged(2, 10, list(2, 1, 2)), 0);
      x.days(3);
      due("DAYS behind it", x.forged(2, 13, list(0, 0, 1)), 2);
      due("DAYS behind it, less of 1 alone", x.forged(2, 13, list(2, 0, 1)), 2);
      due("DAYS behind it, as it is", x.forged(2, 13, list(2, 1, 1)), 0);
      due("the DAY ahead of it still", x.forged(2, 9, list(0, 0, 1)), 0);
      mail(x, 2, 1, 3);
      due("his next one, written DAYS behind", x.forged(2, 12, list(0, 0, 2)), 3);
      due("his next one, on its DAY", x.forged(2, 13, list(0, 0, 2)), 2);
    });
  }

  private static void goesBack() {
    says("Term 4", "3 GOES BACK: for some v less than his latest LETTER by d tells", () -> {
      CitingLetters x = five();
      due("less for 1", x.forged(2, 10, list(2, 0, 2)), 3);
      due("less for 0", x.forged(2, 10, list(1, 1, 2)), 3);
      due("less for himself", x.forged(2, 10, list(2, 1, 0)), 3);
      due("as much", x.forged(2, 10, list(2, 1, 1)), 0);
      due("his latest isn't by DAY 9", x.forged(2, 9, list(0, 0, 0)), 0);
      due("his latest is by DAY 10", x.forged(2, 10, 0), 3);
      due("his latest, not his first", x.forged(0, 0, list(1)), 3);
      due("his latest as it is", x.forged(0, 0, list(2)), 0);
      due("behind his latest", x.forged(0, 0, list(3)), 0);
      due("he has written none", x.forged(5, 10, 0), 0);
    });
    says("Term 4", "The first of these that holds; 0 it FITS", () -> {
      CitingLetters x = five();
      due("all three", x.forged(2, 10, list(0, 1, 3)), 1);
      due("LACKS and GOES BACK", x.forged(2, 10, list(0, 1, 2)), 2);
      due("GOES BACK alone", x.forged(2, 10, list(0, 0, 2)), 3);
      due("none of them", x.forged(2, 10, list(2, 1, 2)), 0);
    });
  }

  private static void forged() {
    says("Promise 33", "(NUMBERS five bits each, that for WRITER 0 lowest; bits beyond aren't looked at)", () -> {
      CitingLetters x = five();
      due("bit 30", x.forged(4, 10, 1 << 30), 0);
      due("bit 30 and one of 0", x.forged(4, 10, 1 << 30 | list(1)), 0);
      due("bit 30 and LACKS", x.forged(4, 10, 1 << 30 | list(0, 1)), 2);
      due("all bits but the sign", x.forged(4, 10, Integer.MAX_VALUE), 1);
      due("the last five bits: his next", x.forged(5, 10, 1 << 25), 0);
      due("the last five bits: one more", x.forged(5, 10, 2 << 25), 1);
      due("their highest alone", x.forged(5, 10, 1 << 29), 1);
      due("the first five bits: 16", x.forged(4, 10, 16), 1);
    });
    says("Term 4", "NUMBERS for all six", () -> {
      CitingLetters x = new CitingLetters();
      for (int w = 0; w < 6; w++) mails(x, w + 1, w, 63 ^ 1 << w);
      x.days(5);
      for (int w = 0; w < 6; w++) {
        int all = list(1, 2, 3, 4, 5, 6);
        due("all there are, by " + w, x.forged(w, 5, all), 0);
        due("his next, by " + w, x.forged(w, 5, all + (1 << 5 * w)), 0);
        due("his next but one, by " + w, x.forged(w, 5, all + (2 << 5 * w)), 1);
        int v = (w + 3) % 6;
        due("one too many of " + v + ", by " + w, x.forged(w, 5, all + (1 << 5 * v)), 1);
        due("one fewer of " + v + ", by " + w, x.forged(w, 5, all - (1 << 5 * v)), 0);
        due("one fewer of his, by " + w, x.forged(w, 5, all - (1 << 5 * w)), 3);
      }
      due("all six could", x.forgers(5, list(1, 2, 3, 4, 5, 6)), 63);
      due("one could", x.forgers(5, list(1, 2, 3, 5, 5, 6)), 8);
    });
    says("Promise 33", "NONE: no such WRITER, DAY (beyond TODAY), list below 0", () -> {
      CitingLetters x = five();
      for (int no : NO_WRITERS) due("forged(" + no + ", 0, 0)", x.forged(no, 0, 0), NONE);
      for (int no : new int[] {-1, 11, 999, 1000, Integer.MIN_VALUE, Integer.MAX_VALUE}) due("forged(4, " + no + ", 0)", x.forged(4, no, 0), NONE);
      for (int no : new int[] {-1, Integer.MIN_VALUE, Integer.MIN_VALUE | 1}) due("forged(4, 0, " + no + ")", x.forged(4, 0, no), NONE);
      due("the first DAY", x.forged(5, 0, 0), 0);
      due("TODAY", x.forged(5, 10, 0), 0);
      x.days(1);
      due("TODAY", x.forged(5, 11, 0), 0);
    });
  }

  private static void forgers() {
    says("Promise 34", "(bits of those for whom it FITS)", () -> {
      CitingLetters x = five();
      due("none of those who have written", x.forgers(10, 0), 48);
      due("on day 0, less than 0 has written", x.forgers(0, list(1)), 0);
      due("on day 0, as many", x.forgers(0, list(2)), 1);
      due("on day 0, one more", x.forgers(0, list(3)), 1);
      due("on day 0, two more", x.forgers(0, list(4)), 0);
      due("without LETTERS", new CitingLetters().forgers(0, 0), 63);
    });
    says("Promise 34", "NONE: no such DAY, list", () -> {
      CitingLetters x = five();
      for (int no : new int[] {-1, 11, 999, 1000, Integer.MIN_VALUE, Integer.MAX_VALUE}) due("forgers(" + no + ", 0)", x.forgers(no, 0), NONE);
      for (int no : new int[] {-1, Integer.MIN_VALUE}) due("forgers(0, " + no + ")", x.forgers(0, no), NONE);
      due("bit 30", x.forgers(10, 1 << 30), 48);
    });
  }
}
