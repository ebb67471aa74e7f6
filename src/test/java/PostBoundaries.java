/** Letters, copies, ways, the split: Term 1 and Promises 5 to 10, 13 and 14. */
final class PostBoundaries extends Sentences {
  private static final int[] NO_WRITERS = {-1, 6, 7, 31, 32, Integer.MIN_VALUE, Integer.MAX_VALUE};

  static void all() { ways(); letters(); answered(); room(); copies(); late(); lose(); again(); split(); look(); copy(); }

  private static void ways() {
    says("Term 1", "WAY between two WRITERS: 1 .. 30 days (5 at first), the same both ways", () -> {
      CitingLetters x = new CitingLetters();
      due("way(0, 1, 1)", x.way(0, 1, 1), true);
      due("way(5, 4, 30)", x.way(5, 4, 30), true);
      for (int days : new int[] {0, -1, 31, Integer.MIN_VALUE, Integer.MAX_VALUE}) due("way(0, 1, " + days + ")", x.way(0, 1, days), false);
      mail(x, 0, 2);
      mail(x, 1, 1);
      mail(x, 4, 32);
      mail(x, 5, 16);
      mail(x, 2, 8);
      int[] day = {1, 1, 30, 30, 5};
      for (int c = 0; c < 5; c++) due("copy(" + c + ", 2)", x.copy(c, 2), day[c]);
    });
    says("Promise 5", "(for what is posted from now on)", () -> {
      CitingLetters x = new CitingLetters();
      mail(x, 0, 2);
      x.way(0, 1, 9);
      due("posted ahead of it", x.copy(0, 2), 5);
      due("late", x.late(0, 1), 6);
      mail(x, 0, 2);
      due("posted behind it", x.copy(1, 2), 9);
    });
    says("Promise 5", "true; false: no such ones", () -> {
      CitingLetters x = new CitingLetters();
      for (int no : NO_WRITERS) {
        due("way(" + no + ", 0, 3)", x.way(no, 0, 3), false);
        due("way(0, " + no + ", 3)", x.way(0, no, 3), false);
      }
      for (int w = 0; w < 6; w++) due("way to himself", x.way(w, w, 3), false);
      due("way(0, 5, 3)", x.way(0, 5, 3), true);
      due("way(0, 5, 31)", x.way(0, 5, 31), false);
      mail(x, 0, 32);
      due("what was refused changes nothing", x.copy(0, 2), 3);
    });
  }

  private static void letters() {
    says("Term 1", "WRITERS 0 .. 5", () -> {
      CitingLetters x = new CitingLetters();
      for (int no : NO_WRITERS) due("write(" + no + ", 3, ..)", mail(x, no, 3), NONE);
      due("by 0 to 5", mail(x, 0, 32), 0);
      for (int no : NO_WRITERS) {
        due("write(" + no + ", 3, ..) taking back", takeBack(x, no, 3, 0), NONE);
        due("write(" + no + ", 3, ..) that ANSWERS", mail(x, no, 3, 0), NONE);
      }
      due("by 5 to 0", mail(x, 5, 1), 1);
    });
    says("Term 1", "LETTERS, at most 30, numbered from 0 on", () -> {
      CitingLetters x = new CitingLetters();
      for (int k = 0; k < 30; k++) due("write", mail(x, 0, 2), k);
      due("a 31st", mail(x, 0, 2), NONE);
      due("a 31st of another", mail(x, 1, 1), NONE);
      due("LETTERS", x.count(1), 30);
      due("COPIES", x.count(2), 30);
    });
    says("Term 1", "a KIND (0 plain, 1 a CLAIM, 2 one that takes back)", () -> {
      CitingLetters x = new CitingLetters();
      for (int kind : new int[] {-1, 3, Integer.MIN_VALUE, Integer.MAX_VALUE}) {
        due("write of KIND " + kind, x.write(0, 2, kind, NONE, NONE), NONE);
      }
      due("plain", x.write(0, 2, 0, NONE, NONE), 0);
      due("a CLAIM", x.write(0, 2, 1, NONE, NONE), 1);
      due("one that takes back", x.write(0, 2, 2, 0, NONE), 2);
      for (int kind = 0; kind < 3; kind++) due("look(" + kind + ", 2)", x.look(kind, 2), kind);
      due("KIND 3 that ANSWERS one", x.write(0, 2, 3, 0, NONE), NONE);
    });
    says("Term 1", "to whom (bits of the other WRITERS, one at least)", () -> {
      CitingLetters x = new CitingLetters();
      for (int w = 0; w < 6; w++) {
        due("to nobody", mail(x, w, 0), NONE);
        due("to himself", mail(x, w, 1 << w), NONE);
        due("to all and himself", mail(x, w, 63), NONE);
      }
      for (int to : new int[] {64, 66, 126, -1, -2, 1 << 30 | 2, Integer.MIN_VALUE | 2, Integer.MIN_VALUE}) due("write(0, " + to + ", ..)", mail(x, 0, to), NONE);
      due("nothing is posted", x.count(2), 0);
      for (int w = 0; w < 6; w++) due("to all others", mail(x, w, 63 & ~(1 << w)), w);
      due("to one", mail(x, 5, 1), 6);
      due("COPIES", x.count(2), 31);
    });
    says("Term 1", "the DAY (TODAY)", () -> {
      CitingLetters x = new CitingLetters();
      mail(x, 0, 2);
      go(x, 999);
      mail(x, 0, 2);
      due("the first DAY", x.look(0, 1), 0);
      due("the last DAY", x.look(1, 1), 999);
    });
  }

  private static void answered() {
    says("Term 1", "at most two LETTERS, unlike ones, that its WRITER has written or READ", () -> {
      CitingLetters x = with("read hand 1;");
      due("nothing is there", mail(x, 0, 2, 0), NONE);
      mail(x, 0, 2);
      mail(x, 0, 4);
      due("twice the same", x.write(0, 2, 0, 0, 0), NONE);
      due("what another wrote", mail(x, 1, 1, 0), NONE);
      x.days(5);
      due("what he HOLDS alone", mail(x, 1, 1, 0), NONE);
      x.read(1, 0);
      due("what he hasn't READ, beside", x.write(1, 1, 0, 0, 1), NONE);
      due("what he hasn't READ, ahead", x.write(1, 1, 0, 1, 0), NONE);
      due("one that he has READ", mail(x, 1, 1, 0), 2);
      due("two of his own", x.write(0, 2, 0, 1, 0), 3);
      due("one of his own, one READ", x.write(1, 1, 1, 2, 0), 4);
      due("itself", mail(x, 1, 1, 5), NONE);
      for (int no : new int[] {-2, 5, 30, 32, Integer.MIN_VALUE, Integer.MAX_VALUE}) {
        due("write(.., " + no + ", NONE)", x.write(0, 2, 0, no, NONE), NONE);
        due("write(.., 0, " + no + ")", x.write(0, 2, 0, 0, no), NONE);
      }
    });
    says("Term 1", "of KIND 2 just one, of his own", () -> {
      CitingLetters x = new CitingLetters();
      due("none", x.write(0, 2, 2, NONE, NONE), NONE);
      mails(x, 2, 0, 2);
      x.days(5);
      due("two", x.write(0, 2, 2, 0, 1), NONE);
      due("another's that he has READ", x.write(1, 1, 2, 0, NONE), NONE);
      due("none but another", x.write(0, 2, 2, NONE, 0), NONE);
      for (int no : new int[] {-2, 2, 32, Integer.MAX_VALUE}) due("takes back " + no, takeBack(x, 0, 2, no), NONE);
      due("with -2 beside", x.write(0, 2, 2, 0, -2), NONE);
      due("one of his own", takeBack(x, 0, 2, 0), 2);
      due("the same once more", takeBack(x, 0, 2, 0), 3);
      due("one that takes back", takeBack(x, 0, 2, 3), 4);
    });
    says("Promise 6", "NONE for none; of one alone other is NONE", () -> {
      CitingLetters x = new CitingLetters();
      mail(x, 0, 2);
      due("other alone", x.write(0, 2, 0, NONE, 0), NONE);
      due("one alone", x.write(0, 2, 0, 0, NONE), 1);
      due("none", x.write(0, 2, 0, NONE, NONE), 2);
      due("-2 for none", x.write(0, 2, 0, -2, -2), NONE);
      due("look(1, 4)", x.look(1, 4), 0);
      due("look(1, 5)", x.look(1, 5), NONE);
      due("look(2, 4)", x.look(2, 4), NONE);
    });
  }

  private static void room() {
    says("Promise 6", "it can't be, there are 30, or no room for all its COPIES", () -> {
      CitingLetters x = new CitingLetters();
      mails(x, 29, 0, 62);
      x.again(0, 0, 1);
      due("COPIES", x.count(2), 146);
      due("five more", mail(x, 0, 62), NONE);
      due("no LETTER came of it", x.count(1), 29);
      due("no COPY came of it", x.count(2), 146);
      due("four more", mail(x, 0, 60), 29);
      due("COPIES", x.count(2), 150);
    });
    says("Promise 6", "no room for all its COPIES", () -> {
      CitingLetters x = new CitingLetters();
      mail(x, 0, 2);
      for (int k = 1; k < 150; k++) x.again(0, 0, 1);
      due("one more", mail(x, 0, 2), NONE);
      due("LETTERS", x.count(1), 1);
      x.days(99);
      due("what has come keeps its room", mail(x, 0, 2), NONE);
    });
    says("Promise 6", "there are 30", () -> {
      CitingLetters x = thirty();
      due("a 31st", mail(x, 0, 2), NONE);
      due("a 31st that ANSWERS", mail(x, 0, 2, 0), NONE);
      x.burn(0);
      due("what was BURNT keeps its number", mail(x, 0, 2), NONE);
    });
  }

  private static void copies() {
    says("Term 1", "COPIES, at most 150, numbered from 0 on", () -> {
      CitingLetters x = new CitingLetters();
      for (int k = 0; k < 30; k++) mail(x, 0, 62);
      due("COPIES", x.count(2), 150);
      due("a 151st", x.again(0, 0, 1), NONE);
      due("the first", x.copy(0, 0), 0);
      due("the last", x.copy(149, 0), 29);
      due("none such", x.copy(150, 0), NONE);
    });
    says("Term 1", "One is posted for each of those to whom it goes, by their numbers, as it is written", () -> {
      CitingLetters x = new CitingLetters();
      mail(x, 3, 39);
      int[] reader = {0, 1, 2, 5};
      for (int c = 0; c < 4; c++) due("copy(" + c + ", 1)", x.copy(c, 1), reader[c]);
      due("COPIES", x.count(2), 4);
    });
    says("Term 1", "it COMES on the DAY that is WAY behind", () -> {
      CitingLetters x = new CitingLetters();
      x.way(0, 1, 1);
      x.way(0, 2, 30);
      mail(x, 0, 14);
      due("nothing comes at once", x.readOn(1, 0), NONE);
      x.days(40);
      due("WAY 1", x.readOn(1, 0), 1);
      due("WAY 30", x.readOn(2, 0), 30);
      due("WAY 5", x.readOn(3, 0), 5);
      x = new CitingLetters();
      go(x, 994);
      mail(x, 0, 2);
      x.days(1);
      mail(x, 0, 2);
      x.days(4);
      due("on the last DAY", x.readOn(1, 0), 999);
      due("a DAY behind it", x.copy(1, 2), 1000);
      due("stays UNDER WAY", x.copy(1, 3), 0);
    });
    says("Term 1", "UNDER WAY till it COMES, or is LOST", () -> {
      CitingLetters x = new CitingLetters();
      mail(x, 0, 6);
      x.days(4);
      due("UNDER WAY", x.count(3), 2);
      x.lose(1);
      due("one is LOST", x.count(3), 1);
      due("late ahead of its DAY", x.late(0, 1), 6);
      x.days(2);
      due("come", x.count(3), 0);
      due("late behind its DAY", x.late(0, 1), NONE);
      due("lose behind its DAY", x.lose(0), false);
    });
  }

  private static void late() {
    says("Promise 7", "it COMES so many DAYS (1 .. 99) later than it would: the DAY", () -> {
      CitingLetters x = new CitingLetters();
      mail(x, 0, 2);
      for (int days : new int[] {0, -1, 100, Integer.MIN_VALUE, Integer.MAX_VALUE}) due("late(0, " + days + ")", x.late(0, days), NONE);
      due("the DAY stays", x.copy(0, 2), 5);
      due("late(0, 1)", x.late(0, 1), 6);
      due("late(0, 99)", x.late(0, 99), 105);
      go(x, 104);
      due("not yet", x.copy(0, 3), 0);
      x.days(1);
      due("readOn", x.readOn(1, 0), 105);
    });
    says("Promise 7", "NONE: it isn't UNDER WAY, no such number, beyond 999", () -> {
      CitingLetters x = new CitingLetters();
      due("no COPY", x.late(0, 1), NONE);
      mail(x, 0, 14);
      x.lose(0);
      x.late(2, 20);
      x.days(5);
      due("LOST", x.late(0, 1), NONE);
      due("come", x.late(1, 1), NONE);
      for (int no : new int[] {-1, 3, 150, Integer.MIN_VALUE, Integer.MAX_VALUE}) due("late(" + no + ", 1)", x.late(no, 1), NONE);
      due("UNDER WAY", x.late(2, 1), 26);
    });
    says("Promise 7", "beyond 999", () -> {
      CitingLetters x = new CitingLetters();
      mail(x, 0, 2);
      for (int k = 0; k < 10; k++) x.late(0, 99);
      due("to 1000", x.late(0, 5), NONE);
      due("its DAY stays", x.copy(0, 2), 995);
      due("to 999", x.late(0, 4), 999);
      due("to 1000", x.late(0, 1), NONE);
      go(x, 999);
      due("come on the last DAY", x.readOn(1, 0), 999);
    });
  }

  private static void lose() {
    says("Promise 8", "true; false: it isn't", () -> {
      CitingLetters x = new CitingLetters();
      due("no COPY", x.lose(0), false);
      mail(x, 0, 6);
      for (int no : new int[] {-1, 2, 150, Integer.MIN_VALUE, Integer.MAX_VALUE}) due("lose(" + no + ")", x.lose(no), false);
      due("lose(0)", x.lose(0), true);
      due("LOST already", x.lose(0), false);
      x.days(5);
      due("come", x.lose(1), false);
      due("never comes", x.has(0), 5);
    });
  }

  private static void again() {
    says("Promise 9", "posted by somebody who has written or READ a LETTER: its number", () -> {
      CitingLetters x = with("read hand 1;");
      mail(x, 0, 2);
      due("its WRITER", x.again(0, 0, 5), 1);
      x.days(5);
      due("one who HOLDS it", x.again(0, 1, 2), NONE);
      x.read(1, 0);
      due("one who has READ it", x.again(0, 1, 2), 2);
      due("back to its WRITER", x.again(0, 1, 0), 3);
      due("to one who has READ it", x.again(0, 5, 1), 4);
    });
    says("Promise 9", "NONE: he hasn't, no such ones, to himself, or there are 150", () -> {
      CitingLetters x = new CitingLetters();
      due("no LETTER", x.again(0, 0, 1), NONE);
      mail(x, 0, 2);
      due("he hasn't", x.again(0, 1, 2), NONE);
      for (int no : NO_WRITERS) {
        due("again(0, " + no + ", 1)", x.again(0, no, 1), NONE);
        due("again(0, 0, " + no + ")", x.again(0, 0, no), NONE);
        due("again(" + no + ", 0, 1)", x.again(no, 0, 1), NONE);
      }
      due("to himself", x.again(0, 0, 0), NONE);
      due("nothing is posted", x.count(2), 1);
      for (int k = 1; k < 150; k++) due("again", x.again(0, 0, 1), k);
      due("there are 150", x.again(0, 0, 1), NONE);
      due("COPIES", x.count(2), 150);
    });
  }

  /** The DAY on which a COPY from 0 to 1, otherwise due on day 5, comes with a split. */
  private static int comes(int half, int from, int to) {
    CitingLetters x = new CitingLetters();
    x.split(half, from, to);
    mail(x, 0, 2);
    return x.copy(0, 2);
  }

  private static void split() {
    says("Term 1", "a COPY posted between the halves that would COME on one of these DAYS COMES on the DAY behind to", () -> {
      due("on the only one", comes(1, 5, 5), 6);
      due("on the first", comes(1, 5, 998), 999);
      due("on the last", comes(1, 0, 5), 6);
      due("amid", comes(1, 3, 7), 8);
      due("a DAY ahead", comes(1, 6, 9), 5);
      due("DAYS behind", comes(1, 0, 3), 5);
      due("the other half", comes(2, 5, 9), 10);
      due("both in the half", comes(3, 5, 9), 5);
      due("neither in the half", comes(60, 5, 9), 5);
      due("all in the half", comes(63, 5, 9), 5);
      due("none any more", comes(0, 5, 9), 5);
      due("one of each", comes(62, 5, 9), 10);
    });
    says("Term 1", "SPLIT: a half (bits of WRITERS) and DAYS from .. to", () -> {
      for (int half = 0; half < 64; half++) {
        CitingLetters x = new CitingLetters();
        due("split(" + half + ", 5, 5)", x.split(half, 5, 5), true);
        for (int w = 0; w < 6; w++) mail(x, w, 63 ^ 1 << w);
        int c = 0;
        for (int w = 0; w < 6; w++) {
          for (int v = 0; v < 6; v++) {
            if (v != w) due("from " + w + " to " + v + ", half " + half, x.copy(c++, 2), (half >> w & 1) == (half >> v & 1) ? 5 : 6);
          }
        }
      }
    });
    says("Term 1", "a COPY posted between the halves", () -> {
      CitingLetters x = new CitingLetters();
      mail(x, 0, 2);
      x.days(5);
      x.split(1, 10, 12);
      x.again(0, 1, 2);
      due("by one beyond, of a LETTER from within", x.copy(1, 2), 10);
      due("and late", x.late(1, 1), 11);
      x.again(0, 0, 2);
      due("by its WRITER", x.copy(2, 2), 13);
      due("late from there", x.late(2, 1), 14);
      x.split(5, 10, 12);
      x.again(0, 0, 2);
      due("within the half", x.copy(3, 2), 10);
    });
    says("Term 1", "(as it is posted, or LATE;", () -> {
      CitingLetters x = new CitingLetters();
      mail(x, 0, 6);
      x.split(1, 8, 9);
      due("posted ahead of the SPLIT", x.copy(0, 2), 5);
      due("late, ahead of its DAYS", x.late(0, 2), 7);
      due("late into it", x.late(0, 1), 10);
      due("late beyond it", x.late(0, 1), 11);
      due("late over it", x.late(1, 5), 10);
      x.split(1, 15, 998);
      due("late into it, up to the last DAY", x.late(1, 5), 999);
    });
    says("Term 1", "only the latest SPLIT told counts for those posted or LATE from then on)", () -> {
      CitingLetters x = new CitingLetters();
      x.split(1, 5, 9);
      mail(x, 0, 2);
      x.split(2, 20, 30);
      mail(x, 0, 2);
      due("posted with the first", x.copy(0, 2), 10);
      due("the first counts no more", x.copy(1, 2), 5);
      x.split(0, 0, 0);
      due("late without any", x.late(1, 15), 20);
      due("what was posted with the first stays", x.copy(0, 2), 10);
    });
    says("Promise 10", "(half 0: none any more)", () -> {
      CitingLetters x = new CitingLetters();
      x.split(1, 0, 998);
      due("split(0, 0, 998)", x.split(0, 0, 998), true);
      mail(x, 0, 62);
      for (int c = 0; c < 5; c++) due("copy(" + c + ", 2)", x.copy(c, 2), 5);
    });
    says("Promise 10", "true; false: no such half, DAYS (from, to 0 .. 998, from at most to)", () -> {
      CitingLetters x = new CitingLetters();
      due("split(1, 5, 9)", x.split(1, 5, 9), true);
      for (int half : new int[] {-1, 64, Integer.MIN_VALUE, Integer.MAX_VALUE}) due("half " + half, x.split(half, 0, 0), false);
      for (int from : new int[] {-1, 1, 999, Integer.MIN_VALUE, Integer.MAX_VALUE}) due("from " + from + " to 0", x.split(2, from, 0), false);
      for (int to : new int[] {-1, 499, 999, Integer.MIN_VALUE, Integer.MAX_VALUE}) due("from 500 to " + to, x.split(2, 500, to), false);
      due("split(0, 1, 0)", x.split(0, 1, 0), false);
      mail(x, 0, 4);
      due("what was refused changes nothing", x.copy(0, 2), 10);
      due("split(63, 998, 998)", x.split(63, 998, 998), true);
      due("split(32, 0, 0)", x.split(32, 0, 0), true);
      due("split(1, 0, 998)", x.split(1, 0, 998), true);
    });
  }

  private static void look() {
    says("Promise 13", "Of a LETTER, what 0: WRITER, 1: DAY, 2: KIND, 3: to whom, 4, 5: what it ANSWERS", () -> {
      CitingLetters x = five();
      x.write(5, 31, 1, NONE, NONE);
      x.write(0, 62, 0, 1, 0);
      int[][] want = {{0, 0, 0, 2, NONE, NONE}, {0, 0, 0, 4, NONE, NONE}, {1, 5, 0, 4, 0, NONE}, {2, 10, 0, 1, 2, NONE},
          {3, 10, 0, 16, NONE, NONE}, {5, 10, 1, 31, NONE, NONE}, {0, 10, 0, 62, 1, 0}};
      for (int k = 0; k < 7; k++) for (int what = 0; what < 6; what++) due("look(" + k + ", " + what + ")", x.look(k, what), want[k][what]);
    });
    says("Promise 13", "what it ANSWERS (NONE)", () -> {
      CitingLetters x = five();
      due("look(0, 4)", x.look(0, 4), NONE);
      due("look(0, 5)", x.look(0, 5), NONE);
      due("look(2, 4)", x.look(2, 4), 0);
      due("look(2, 5)", x.look(2, 5), NONE);
    });
    says("Promise 13", "IndexOutOfBoundsException: no such LETTER", () -> {
      CitingLetters x = new CitingLetters();
      due("no LETTERS", looked(x, 0, 0), NO_LETTER);
      x = five();
      for (int no : new int[] {-1, 5, 30, Integer.MIN_VALUE, Integer.MAX_VALUE}) {
        for (int what = -1; what <= 6; what++) due("look(" + no + ", " + what + ")", looked(x, no, what), NO_LETTER);
      }
      due("the last", looked(x, 4, 0), 3);
    });
    says("Promise 13", "NoSuchElementException: no such what", () -> {
      CitingLetters x = five();
      for (int what : new int[] {-1, 6, Integer.MIN_VALUE, Integer.MAX_VALUE}) due("look(0, " + what + ")", looked(x, 0, what), NO_WHAT);
      due("look(0, 5)", looked(x, 0, 5), NONE);
    });
  }

  private static void copy() {
    says("Promise 14", "the DAY on which it COMES (or was to), 3: 0 UNDER WAY, 1 come, 2 LOST", () -> {
      CitingLetters x = new CitingLetters();
      mail(x, 0, 14);
      x.late(2, 3);
      x.lose(1);
      x.days(4);
      int[] early = {0, 2, 0}, behind = {1, 2, 0}, day = {5, 5, 8};
      for (int c = 0; c < 3; c++) due("copy(" + c + ", 3) on day 4", x.copy(c, 3), early[c]);
      x.days(1);
      for (int c = 0; c < 3; c++) due("copy(" + c + ", 3) on day 5", x.copy(c, 3), behind[c]);
      for (int c = 0; c < 3; c++) due("copy(" + c + ", 2)", x.copy(c, 2), day[c]);
    });
    says("Promise 14", "Of a COPY, what 0: its LETTER, 1: to whom", () -> {
      CitingLetters x = new CitingLetters();
      mail(x, 0, 32);
      mail(x, 5, 3);
      x.again(0, 0, 3);
      int[] letter = {0, 1, 1, 0}, reader = {5, 0, 1, 3};
      for (int c = 0; c < 4; c++) {
        due("copy(" + c + ", 0)", x.copy(c, 0), letter[c]);
        due("copy(" + c + ", 1)", x.copy(c, 1), reader[c]);
      }
    });
    says("Promise 14", "NONE: no such ones", () -> {
      CitingLetters x = new CitingLetters();
      due("no COPIES", x.copy(0, 0), NONE);
      mail(x, 1, 9);
      for (int no : new int[] {-1, 2, 150, Integer.MIN_VALUE, Integer.MAX_VALUE}) due("copy(" + no + ", 0)", x.copy(no, 0), NONE);
      for (int what : new int[] {-1, 4, Integer.MIN_VALUE, Integer.MAX_VALUE}) due("copy(0, " + what + ")", x.copy(0, what), NONE);
      due("copy(1, 0)", x.copy(1, 0), 0);
      due("copy(1, 1)", x.copy(1, 1), 3);
    });
  }
}
