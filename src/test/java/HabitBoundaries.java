/** What a text that stands makes of the days: rules of reading and habits of answering, Term 2. */
final class HabitBoundaries extends Sentences {
  static void all() { rules(); first(); answers(); seen(); readers(); habits(); room(); facts(); deep(); worth(); }

  /** Writer 1 reads a CLAIM of writer 0 that answers nothing, and answers it if E holds. */
  private static void holds(String e, boolean want) {
    CitingLetters x = with("answer " + e + " by 1;");
    mail(x, 3, 4);
    x.write(0, 2, 1, NONE, NONE);
    x.days(5);
    due("E " + e, x.count(1) == 3, want);
  }

  private static void rules() {
    says("Term 2", "(comes without a LINE)", () -> {
      CitingLetters x = with("read hand 1;");
      mail(x, 0, 62);
      x.days(5);
      due("HELD", x.count(4), 1);
      due("READ", x.count(5), 4);
      told(x, "answer 0;");
      due("a text alone lets none be READ", x.count(4), 1);
      x.days(1);
      due("the next DAY does", x.readOn(1, 0), 6);
    });
    says("Term 2", "hand: it isn't READ by itself", () -> {
      CitingLetters x = with("read hand 1;");
      mail(x, 0, 2);
      go(x, 999);
      due("HELD", x.desk(1, 0), 0);
      due("readOn", x.readOn(1, 0), NONE);
      due("read", x.read(1, 0), 0);
      due("readOn", x.readOn(1, 0), 999);
    });
    says("Term 2", "comes: any", () -> {
      CitingLetters x = with("read comes 1;");
      mails(x, 2, 0, 2);
      x.write(0, 2, 0, 0, 1);
      x.lose(0);
      x.lose(1);
      x.days(5);
      due("readOn", x.readOn(1, 2), 5);
    });
  }

  private static void first() {
    says("Term 2", "first: all LETTERS of its WRITER to him that were written ahead of it are READ", () -> {
      CitingLetters x = with("read first 1;");
      mail(x, 0, 6);
      mail(x, 0, 4);
      mail(x, 2, 2);
      mail(x, 0, 2);
      mail(x, 0, 2);
      x.late(0, 3);
      x.late(5, 5);
      x.days(5);
      due("another's", x.readOn(1, 2), 5);
      due("one ahead isn't READ", x.desk(1, 0), 3);
      due("only those to him", x.waits(1, 3), 1);
      x.days(3);
      due("none ahead", x.readOn(1, 0), 8);
      due("all ahead are READ, those behind don't count", x.readOn(1, 3), 8);
      x.days(2);
      due("the last", x.readOn(1, 4), 10);
    });
    says("Term 2", "written ahead of it are READ", () -> {
      CitingLetters x = with("read first 1;");
      mails(x, 3, 0, 2);
      x.lose(0);
      x.late(1, 1);
      x.days(5);
      due("both ahead", x.waits(1, 2), 3);
      x.days(1);
      due("one that is HELD isn't READ", x.waits(1, 2), 3);
      x.read(1, 1);
      due("one READ by hand", x.waits(1, 2), 1);
      x.days(1);
      due("still HELD", x.desk(1, 0), 2);
    });
  }

  private static void answers() {
    says("Term 2", "answers: all that it ANSWERS and that went to him are READ", () -> {
      CitingLetters x = with("read answers 2;");
      mail(x, 0, 6);
      mail(x, 0, 2);
      x.lose(1);
      x.days(5);
      mail(x, 1, 4, 1);
      x.write(1, 4, 0, 1, 0);
      mail(x, 1, 4, 2);
      mail(x, 1, 4, 3);
      mail(x, 1, 4);
      x.days(5);
      due("what went to another doesn't count", x.readOn(2, 2), 10);
      due("one of two that it ANSWERS", x.waits(2, 3), 1);
      due("what an answered one ANSWERS doesn't count", x.readOn(2, 4), 10);
      due("one that is HELD", x.waits(2, 5), 8);
      due("ANSWERS nothing", x.readOn(2, 6), 10);
      x.again(0, 1, 2);
      x.days(5);
      due("all READ", x.readOn(2, 3), 15);
      due("all READ, and so on", x.readOn(2, 5), 15);
    });
  }

  private static void seen() {
    says("Term 2", "seen: all that are BEFORE it (3.) and went to him are READ", () -> {
      CitingLetters x = with("read seen 2;");
      mail(x, 0, 6);
      mail(x, 0, 2);
      x.lose(1);
      mail(x, 3, 4);
      x.days(5);
      due("none is BEFORE it", x.readOn(2, 2), 5);
      mail(x, 1, 4);
      mail(x, 1, 16);
      mail(x, 4, 4);
      x.days(5);
      due("BEFORE it and to him", x.waits(2, 3), 1);
      due("APART", x.readOn(2, 5), 10);
      mail(x, 4, 4);
      x.days(5);
      due("through others, though not ANSWERED; those to others don't count", x.waits(2, 6), 1 + 8);
      x.again(0, 0, 2);
      x.days(5);
      due("READ", x.readOn(2, 3), 20);
      due("READ behind it", x.readOn(2, 6), 20);
    });
  }

  private static void readers() {
    says("Term 2", "N behind RULE or by: WRITERS 0 .. 5", () -> {
      for (int reader = 0; reader < 6; reader++) {
        int writer = (reader + 1) % 6;
        for (String rule : "first answers seen".split(" ")) {
          CitingLetters x = with("read " + rule + " " + reader + ";answer 1 by " + reader + ";");
          mail(x, writer, 1 << reader);
          mail(x, writer, 1 << reader, 0);
          x.lose(0);
          x.days(5);
          due(rule + " of " + reader, x.waits(reader, 1), 1);
          due(rule + " of " + reader, x.ever(reader), 2);
          x.again(0, writer, reader);
          x.days(5);
          due(rule + " of " + reader + ": both READ", x.count(5), 2);
          due(rule + " of " + reader + ": both answered", x.count(1), 4);
          due(rule + " of " + reader + ": by him", x.look(2, 0), reader);
        }
      }
    });
  }

  private static void habits() {
    says("Term 2", "LINE by LINE of answer and round", () -> {
      CitingLetters x = with("answer mine=7;round mine=1;answer mine=0;round mine=1;answer mine=2;read hand 1;answer mine=2;round mine=3;answer mine=4;");
      mail(x, 0, 2);
      x.days(5);
      due("HELD", x.count(4), 1);
      x.read(1, 0);
      int[] to = {1, 61, 1, 61, 1};
      for (int k = 0; k < 4; k++) due("look(" + (1 + k) + ", 3)", x.look(1 + k, 3), to[k]);
      due("the eighth", x.look(5, 3), 1);
      due("LETTERS", x.count(1), 6);
    });
    says("Term 2", "in which he is told (or none is)", () -> {
      CitingLetters x = with("answer 1 by 1;round 1 by 2;answer 1;");
      mail(x, 0, 14);
      x.days(5);
      due("LETTERS", x.count(1), 6);
      int[] writer = {0, 1, 1, 2, 2, 3}, to = {14, 1, 1, 59, 1, 1};
      for (int k = 0; k < 6; k++) {
        due("WRITER of " + k, x.look(k, 0), writer[k]);
        due("to whom " + k, x.look(k, 3), to[k]);
      }
    });
    says("Term 2", "answer: to its WRITER; round: to all others", () -> {
      CitingLetters x = with("round kind=1 by 0 5;answer kind=1 by 4;");
      x.write(3, 49, 1, NONE, NONE);
      x.days(5);
      due("round by 0", x.look(1, 3), 62);
      due("answer by 4", x.look(2, 3), 8);
      due("round by 5", x.look(3, 3), 31);
      due("COPIES", x.count(2), 3 + 5 + 1 + 5);
    });
    says("Term 2", "he writes a plain LETTER that ANSWERS it", () -> {
      CitingLetters x = with("answer 1 by 1;");
      x.days(3);
      mail(x, 0, 2);
      x.write(0, 2, 1, 0, NONE);
      x.days(5);
      int[] want = {1, 8, 0, 1, 1, NONE};
      for (int what = 0; what < 6; what++) due("look(3, " + what + ")", x.look(3, what), want[what]);
    });
  }

  private static void room() {
    says("Term 2", "nothing, if there are 30", () -> {
      CitingLetters x = with("answer 1;");
      mails(x, 28, 0, 2);
      x.days(5);
      due("LETTERS", x.count(1), 30);
      due("COPIES", x.count(2), 30);
      due("READ nonetheless", x.count(5), 28);
      due("the last", x.look(29, 4), 1);
      x.days(5);
      due("and no more", x.count(1), 30);
    });
    says("Term 2", "(or no room for all its COPIES)", () -> {
      CitingLetters x = with("round 1 by 1;answer 1 by 1;");
      mail(x, 0, 62);
      for (int k = 5; k < 146; k++) x.again(0, 0, 2);
      x.days(5);
      due("the round is left out, the answer isn't", x.count(1), 2);
      due("to its WRITER", x.look(1, 3), 1);
      due("COPIES", x.count(2), 147);
      x = with("round 1 by 1;answer 1 by 1;");
      mail(x, 0, 62);
      for (int k = 5; k < 145; k++) x.again(0, 0, 2);
      x.days(5);
      due("just room for the round", x.count(1), 2);
      due("to all others", x.look(1, 3), 61);
      due("COPIES", x.count(2), 150);
    });
  }

  private static void facts() {
    says("Term 2", "from: its WRITER; kind", () -> {
      holds("from=0", true);
      holds("kind=1", true);
      CitingLetters x = with("answer from=5 and kind=2 by 1;");
      mail(x, 5, 2);
      takeBack(x, 5, 2, 0);
      x.days(5);
      due("LETTERS", x.count(1), 3);
      due("answers the one of KIND 2", x.look(2, 4), 1);
    });
    says("Term 2", "age: TODAY less its DAY", () -> {
      holds("age=5", true);
      CitingLetters x = with("read hand 1;answer age=1 or age=99 by 1;");
      x.way(0, 1, 1);
      x.days(7);
      mails(x, 3, 0, 2);
      x.days(1);
      x.read(1, 0);
      due("a DAY later", x.count(1), 4);
      x.days(97);
      x.read(1, 1);
      due("98 DAYS later", x.count(1), 4);
      x.days(1);
      x.read(1, 2);
      due("99 DAYS later", x.count(1), 5);
    });
    says("Term 2", "known: how many LETTERS he has written or READ, it with them", () -> {
      holds("known=1", true);
      CitingLetters x = with("answer known=1;answer known=2;answer known=4;");
      mails(x, 2, 0, 2);
      x.days(5);
      // reads 0: known 1, answers (2); known 2, answers (3); known 3. Reads 1: known 4, answers (4)
      due("LETTERS", x.count(1), 5);
      due("answered", x.look(3, 4), 0);
      due("answered", x.look(4, 4), 1);
    });
    says("Term 2", "many: how many it ANSWERS", () -> {
      for (int many = 0; many <= 2; many++) {
        CitingLetters x = with("answer many=" + many + " by 1;");
        mails(x, 2, 0, 4);
        mail(x, 0, 2);
        mail(x, 0, 2, 0);
        x.write(0, 2, 0, 0, 1);
        x.days(5);
        due("LETTERS", x.count(1), 6);
        due("answered", x.look(5, 4), 2 + many);
      }
    });
    says("Term 2", "mine: how many LETTERS he has written", () -> {
      holds("mine=0", true);
      CitingLetters x = with("answer mine=0 by 1;answer mine=1 by 1;answer mine=3 by 1;");
      mail(x, 0, 2);
      x.days(5);
      due("LETTERS", x.count(1), 3);
    });
    says("Term 2", "sum: its SUM (3.)", () -> {
      holds("sum=1", true);
      CitingLetters x = with("answer sum=2 by 2;");
      mail(x, 0, 2);
      mail(x, 0, 4);
      mail(x, 0, 4);
      x.days(5);
      due("LETTERS", x.count(1), 4);
      due("answered", x.look(3, 4), 1);
    });
  }

  private static void deep() {
    says("Term 2", "a 65th KNOT of the whole text", () -> {
      holds("not 31" + times("-1", 31), true);
      holds("not 30" + times("-1", 31), false);
      holds(times("not ", 63) + "0", true);
      holds(times("not ", 63) + "1", false);
      holds(times("not ", 62) + "0", false);
      CitingLetters x = with("answer 0" + times("+0", 31) + ";answer 1 by 1;");
      mail(x, 0, 2);
      x.days(5);
      due("the 64th KNOT counts", x.count(1), 2);
    });
    says("Term 2", "a ninth '(' open", () -> {
      holds(times("(", 8) + "0" + times(")", 8), false);
      holds(times("(", 8) + "1" + times(")", 8), true);
      holds(times("not ", 55) + times("not (", 8) + "0" + times(")", 8), true);
      holds(times("not ", 55) + times("not (", 8) + "1" + times(")", 8), false);
      holds("9-(8-(7-(6-(5-(4-(3-(2-(1))))))))=5", true);
    });
  }

  private static void worth() {
    says("Term 2", "Comparisons, and, or, not are 1 or 0 (what isn't 0 is as 1)", () -> {
      String[] one = {"(5 and 7)", "(0-1 and 2)", "(5 or 0)", "(0 or 7)", "(5 or 7)", "(not 0)", "(1<2)", "(1<=1)", "(7=7)", "(1<>2)", "(1>=1)", "(2>1)", "(not not 9)"};
      for (String e : one) holds(e + "=1", true);
      String[] none = {"(0 and 7)", "(7 and 0)", "(0 or 0)", "(not 5)", "(not (0-5))", "(1<1)", "(2<=1)", "(1=2)", "(1<>1)", "(1>=2)", "(1>1)", "(0 and 0)"};
      for (String e : none) holds(e + "=0", true);
    });
    says("Term 2", "C: S [ ( < | <= | = | <> | >= | > ) S ]", () -> {
      String[] sign = {"<", "<=", "=", "<>", ">=", ">"};
      boolean[][] holds = {{true, false, false}, {true, true, false}, {false, true, false}, {true, false, true}, {false, true, true}, {false, false, true}};
      for (int k = 0; k < 6; k++) for (int a = 1; a <= 3; a++) holds(a + sign[k] + "2", holds[k][a - 1]);
    });
    says("Term 2", "E holds if it isn't 0", () -> {
      holds("0", false);
      holds("1", true);
      holds("2", true);
      holds("0-1", true);
      holds("1-1", false);
      holds("999-999", false);
      holds("998-999", true);
    });
    says("Term 2", "S: P { ( + | - ) P }", () -> {
      holds("10-5-5", false);
      holds("10-(5-5)=10", true);
      holds("1-2+1", false);
      holds("1-2<0", true);
      holds("999+1=999+1", true);
    });
    says("Term 2", "E: A { or A }. A: B { and B }. B: not B | C", () -> {
      holds("1 or 0 and 0", true);
      holds("0 and 0 or 1", true);
      holds("(1 or 0) and 0", false);
      holds("not 1 or 1", true);
      holds("not (1 or 1)", false);
      holds("not 0 and 0", false);
      holds("1 and not 0", true);
      holds("1 and not 1", false);
      holds("0 or not 7", false);
      holds("0 or not not 7", true);
      holds("3+(not 0)=4", true);
      holds("not 1=2", true);
      holds("not 2<1+1", true);
      holds("(not 2)<1", true);
    });
  }
}
