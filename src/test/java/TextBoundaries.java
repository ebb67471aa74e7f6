/** The tape, the text and its faults: Promises 2 to 4, Term 2 as far as a text is read. */
final class TextBoundaries extends Sentences {
  /** 63 knots, and the 64th is yet to come. */
  private static final String KNOTS_63 = "answer 1" + times("+1", 31) + ";";

  static void all() {
    tape(); text(); fault();
    lines(); expressions(); tokens();
    cantStand(); tooMuch(); knots(); twice();
  }

  /** A text that stands has so many lines. */
  private static void stands(String text, int lines) {
    CitingLetters x = new CitingLetters();
    due("text '" + text + "'", told(x, text), lines);
    due("fault(0) of '" + text + "'", x.fault(0), 0);
    due("fault(1) of '" + text + "'", x.fault(1), NONE);
  }
  /** A text with a fault; the place stands right behind the sign @, which isn't of the text. */
  private static void fails(int fault, String marked) {
    String text = marked.replace("@", "");
    CitingLetters x = new CitingLetters();
    due("text '" + text + "'", told(x, text), NONE);
    due("fault(0) of '" + text + "'", x.fault(0), fault);
    due("fault(1) of '" + text + "'", x.fault(1), marked.indexOf('@'));
  }

  private static void tape() {
    says("Promise 2", "Twenty bytes come behind the TAPE", () -> {
      CitingLetters x = new CitingLetters();
      due("feed", x.feed(1, 2, 3, 4, 5), 20);
      due("feed", x.feed(6, 7, 8, 9, 10), 40);
    });
    says("Promise 2", "four of each number, the highest first", () -> {
      CitingLetters x = new CitingLetters();
      feed(x, "read hand 0 1 2 3 4;answer 9999     ");
      due("text(39)", x.text(39), NONE);
      due("place", x.fault(1), 27);
      // a number below 0: its highest byte is 128 and more, and none of the blanks or letters
      x.feed(0x8a202020, 0, 0, 0, 0);
      due("text(4)", x.text(4), NONE);
      due("place", x.fault(1), 0);
      x.feed(0x2020200a, 0xff202020, 0, 0, 0);
      due("text(8)", x.text(8), NONE);
      due("place", x.fault(1), 4);
      x.feed(0x2020a020, 0, 0, 0, 0);
      due("text(4)", x.text(4), NONE);
      due("place", x.fault(1), 2);
      x.feed(Integer.MIN_VALUE, Integer.MAX_VALUE, -1, 0, 1);
      due("text(1)", x.text(1), NONE);
      due("place", x.fault(1), 0);
    });
    says("Promise 2", "how many it has", () -> {
      CitingLetters x = new CitingLetters();
      for (int k = 1; k <= 20; k++) due("feed", x.feed(0, 0, 0, 0, 0), 20 * k);
      x.text(0);
      due("feed behind text(0)", x.feed(0, 0, 0, 0, 0), 20);
      x.text(21);
      due("feed behind -2", x.feed(0, 0, 0, 0, 0), 40);
      x.text(1);
      due("feed behind a FAULT", x.feed(0, 0, 0, 0, 0), 20);
    });
    says("Promise 2", "NONE, and none come, if it would have more than 400", () -> {
      CitingLetters x = new CitingLetters();
      for (int k = 1; k <= 19; k++) feed(x, " ");
      due("the 20th feed", x.feed(0x20202020, 0x20202020, 0x20202020, 0x20202020, 0x20202020), 400);
      due("the 21st feed", x.feed(0, 0, 0, 0, 0), NONE);
      due("the 22nd feed", x.feed(0, 0, 0, 0, 0), NONE);
      due("text(401)", x.text(401), -2);
      due("text(400)", x.text(400), 0);
      due("feed", x.feed(0, 0, 0, 0, 0), 20);
    });
    says("Promise 2", "if it would have more than 400", () -> {
      CitingLetters x = new CitingLetters();
      due("a text of 400", told(x, "read hand;" + times(" ", 379) + "answer mine"), NONE);
      due("fault", x.fault(0), 1);
      due("place", x.fault(1), 400);
      due("a text of 400", told(x, "answer 1;" + times(" ", 380) + "round mine;"), 2);
    });
  }

  private static void text() {
    says("Promise 3", "The TAPE's first n bytes", () -> {
      CitingLetters x = new CitingLetters();
      feed(x, "read hand;read seen;");
      due("text(10)", x.text(10), 1);
      feed(x, "read hand;read seen;");
      due("text(9)", x.text(9), NONE);
      due("place", x.fault(1), 9);
      feed(x, "read hand;read seen;");
      due("text(20)", x.text(20), NONE);
      due("place", x.fault(1), 19);
      due("fault", x.fault(0), 3);
      // what stands behind them is no part of the last TOKEN
      String[] text = {"read hand 5", "answer 1 by 5", "answer 9", "answer 1<", "answer mine", "read hand"};
      String[] behind = {"9", "9", "999", "=2;", "s;", "s;"};
      for (int k = 0; k < text.length; k++) {
        feed(x, text[k] + behind[k]);
        due("text of '" + text[k] + "'", x.text(text[k].length()), NONE);
        due("fault", x.fault(0), 1);
        due("place", x.fault(1), text[k].length());
      }
    });
    says("Promise 3", "The TAPE's first n bytes", () -> {
      for (String sign : new String[] {";", "(", "5", "a", "<", "*", ">=", "1+"}) {
        CitingLetters x = new CitingLetters();
        due("400 bytes of " + sign, told(x, times(sign, 400 / sign.length())), NONE);
        due("fault", x.fault(0), 1);
        due("place", x.fault(1), 0);
        due("the TAPE", x.text(1), -2);
      }
    });
    says("Promise 3", "(it is empty then)", () -> {
      CitingLetters x = new CitingLetters();
      feed(x, "read hand;read seen;");
      due("text(10)", x.text(10), 1);
      due("text(1), though ten bytes stood behind", x.text(1), -2);
      due("feed", x.feed(0, 0, 0, 0, 0), 20);
      due("text(20) with a FAULT", x.text(20), NONE);
      due("text(1)", x.text(1), -2);
      feed(x, " ");
      due("text(0)", x.text(0), 0);
      due("text(1) behind text(0)", x.text(1), -2);
    });
    says("Promise 3", "are the TEXT: how many LINES", () -> {
      CitingLetters x = with("answer 1;round 2;");
      due("LINES of answer and round", x.count(7), 2);
      due("KNOTS", x.count(8), 2);
      due("text(0), no LINES", x.text(0), 0);
      due("LINES of answer and round", x.count(7), 0);
      due("KNOTS", x.count(8), 0);
      due("one for each WRITER and eight", told(x, times("answer 1;", 8) + "read hand 0;read seen 1;read first 2;read answers 3;read comes 4;read hand 5;"), 14);
    });
    says("Promise 3", "NONE with a FAULT", () -> {
      CitingLetters x = with("answer 1+1;read hand 1;");
      due("text", told(x, "round kind;answer 1+1+1;read seen 1;!"), NONE);
      due("LINES stay", x.count(7), 1);
      due("KNOTS stay", x.count(8), 3);
      mail(x, 0, 2);
      x.days(5);
      due("the RULE stays", x.desk(1, 0), 0);
      x.read(1, 0);
      due("the habit stays", x.look(1, 3), 1);
    });
    says("Promise 3", "The TAPE's first n bytes (it is empty then) are the TEXT", () -> {
      // whatever was told or stood open in the texts ahead of it, a text begins anew
      CitingLetters x = new CitingLetters();
      for (int turn = 1; turn <= 3; turn++) {
        due("a RULE for all", told(x, "read hand;"), 1);
        due("64 KNOTS", told(x, KNOTS_63 + "answer 1;"), 2);
        due("KNOTS", x.count(8), 64);
        due("eight LINES", told(x, times("round 0;", 8)), 8);
        due("RULES and a FAULT", told(x, "read hand 1;read seen 2;!"), NONE);
        due("64 KNOTS and a FAULT", told(x, KNOTS_63 + "answer 1!"), NONE);
        due("eight LINES and a FAULT", told(x, times("round 0;", 8) + "round"), NONE);
        due("eight open brackets", told(x, "answer " + times("(", 8) + "1<2"), NONE);
        due("a closing one", told(x, "answer 1);"), NONE);
        due("its place", x.fault(1), 8);
        due("not", told(x, "answer not"), NONE);
        due("answers none", told(x, "answer 0;"), 1);
        mail(x, 0, 2);
        x.days(5);
        due("nobody answers", x.count(1), 3 * turn - 2);
        due("a comparison", told(x, "answer 1<2<"), NONE);
        due("63 times not", told(x, "answer " + times("not ", 63) + "("), NONE);
        due("63 times not", told(x, "answer " + times("not ", 63) + "("), NONE);
        due("answers", told(x, "answer not 0<0 by 1;"), 1);
        mail(x, 0, 2);
        x.days(5);
        due("1 answers", x.count(1), 3 * turn);
      }
    });
    says("Promise 3", "-2, and the TAPE stays: there are not so many, n is below 0", () -> {
      CitingLetters x = new CitingLetters();
      due("text(1)", x.text(1), -2);
      due("text(0)", x.text(0), 0);
      feed(x, "read hand;");
      due("text(-1)", x.text(-1), -2);
      due("text(21)", x.text(21), -2);
      due("text(MIN_VALUE)", x.text(Integer.MIN_VALUE), -2);
      due("text(MAX_VALUE)", x.text(Integer.MAX_VALUE), -2);
      due("text(20)", x.text(20), 1);
    });
  }

  private static void fault() {
    says("Promise 4", "Of the latest text() that was not -2", () -> {
      CitingLetters x = new CitingLetters();
      told(x, "read");
      due("text(1)", x.text(1), -2);
      due("fault(0)", x.fault(0), 1);
      due("fault(1)", x.fault(1), 4);
      told(x, "read hand 6;");
      due("fault(0)", x.fault(0), 2);
      due("fault(1)", x.fault(1), 10);
      told(x, "read hand 0;");
      due("text(-1)", x.text(-1), -2);
      due("fault(0)", x.fault(0), 0);
      due("fault(1)", x.fault(1), NONE);
    });
    says("Promise 4", "its FAULT (0), 1: its place (NONE)", () -> {
      CitingLetters x = new CitingLetters();
      due("fault(0) without text()", x.fault(0), 0);
      due("fault(1) without text()", x.fault(1), NONE);
      x.text(1);
      due("fault(0) behind -2", x.fault(0), 0);
      due("fault(1) behind -2", x.fault(1), NONE);
      told(x, ";");
      due("fault(1) at the first byte", x.fault(1), 0);
    });
    says("Promise 4", "NONE for another what", () -> {
      CitingLetters x = new CitingLetters();
      told(x, "read");
      for (int what : new int[] {-1, 2, Integer.MIN_VALUE, Integer.MAX_VALUE}) due("fault(" + what + ")", x.fault(what), NONE);
    });
  }

  private static void lines() {
    says("Term 2", "A TEXT: { LINE ';' }", () -> {
      stands("", 0);
      stands(" \n ", 0);
      stands("read hand;", 1);
      fails(1, "read hand@");
      fails(1, "@;");
      fails(1, "read hand;@;");
      fails(1, "read hand @read seen;");
      fails(1, "@1;");
      fails(1, "@hand;");
      fails(1, "@by 1;");
      fails(1, "@kind;");
    });
    says("Term 2", "LINE: read RULE { N }", () -> {
      stands("read hand;", 1);
      stands("read hand 0;", 1);
      stands("read hand 5 4 3 2 1 0;", 1);
      fails(1, "read @;");
      fails(1, "read @0;");
      fails(1, "read @by 0;");
      fails(1, "read hand @by 0;");
      fails(1, "read hand @seen;");
      fails(1, "read hand 1@-2;");
    });
    says("Term 2", "( answer | round ) E [ by N { N } ]", () -> {
      stands("answer 1;round 1;", 2);
      stands("answer 1 by 0;round 1 by 5 0 4 1 3 2;", 2);
      fails(1, "answer @;");
      fails(1, "round @by 1;");
      fails(1, "answer 1 by@;");
      fails(1, "answer 1 by @kind;");
      fails(1, "answer 1 by 1 @by 2;");
      fails(1, "answer 1 by 1@+2;");
      fails(1, "answer 1 @read;");
    });
    says("Term 2", "RULE: hand | comes | first | answers | seen", () -> {
      for (String rule : "hand comes first answers seen".split(" ")) stands("read " + rule + ";", 1);
      for (String other : "answer read kind by not ( < 1 hands".split(" ")) fails(1, "read @" + other + ";");
    });
    says("Term 2", "WRITERS 0 .. 5 (without: all)", () -> {
      stands("read hand 0;answer 1 by 0;", 2);
      stands("read hand 5;answer 1 by 5;", 2);
      fails(2, "read hand @6;");
      fails(2, "answer 1 by @6;");
      CitingLetters x = with("read hand 0 5;answer 1 by 5 0;");
      mail(x, 1, 61);
      x.days(5);
      due("HELD", x.count(4), 2);
      due("READ", x.count(5), 3);
      x.read(0, 0);
      x.read(5, 0);
      due("answers", x.count(1), 3);
      x = with("read hand;answer 1;");
      mail(x, 1, 61);
      x.days(5);
      due("HELD, without N", x.count(4), 5);
      for (int w = 0; w < 6; w++) x.read(w, 0);
      due("answers, without by", x.count(1), 6);
    });
  }

  private static void expressions() {
    says("Term 2", "E: A { or A }", () -> {
      stands("answer 1 or 0 or 1;", 1);
      fails(1, "answer @or 1;");
      fails(1, "answer 1 or@;");
      fails(1, "answer 1 or @or 1;");
    });
    says("Term 2", "A: B { and B }", () -> {
      stands("answer 1 and 0 and 1;", 1);
      fails(1, "answer @and 1;");
      fails(1, "answer 1 and @;");
      fails(1, "answer 1 and @or 1;");
    });
    says("Term 2", "B: not B | C", () -> {
      stands("answer not not not 1;", 1);
      stands("answer 1 and not 1 or not 1;", 1);
      stands("answer (not 1)+1<(not 2);", 1);
      fails(1, "answer not @;");
      fails(1, "answer 1 @not 1;");
      fails(1, "answer 1+@not 1;");
      fails(1, "answer 1-@not 1;");
      fails(1, "answer 1<@not 1;");
      fails(1, "answer not @or 1;");
    });
    says("Term 2", "C: S [ ( < | <= | = | <> | >= | > ) S ]", () -> {
      for (String sign : "< <= = <> >= >".split(" ")) {
        stands("answer 1" + sign + "2;", 1);
        stands("answer 1" + sign + "2 and not 3" + sign + "4 or 5" + sign + "6;", 1);
        stands("answer (1" + sign + "2)" + sign + "(3" + sign + "4);", 1);
        fails(1, "answer 1" + sign + "2@" + sign + "3;");
        fails(1, "answer 1" + sign + "2+2@" + sign + "3;");
        fails(1, "answer 1" + sign + "(2" + sign + "3)@=3;");
        fails(1, "answer (1" + sign + "2@" + sign + "3);");
        fails(1, "answer @" + sign + "1;");
        fails(1, "answer 1" + sign + "@;");
      }
    });
    says("Term 2", "S: P { ( + | - ) P }", () -> {
      stands("answer 1+2-3+4;", 1);
      fails(1, "answer @-1;");
      fails(1, "answer 1+@-1;");
      fails(1, "answer 1-@;");
    });
    says("Term 2", "P: N | NAME | '(' E ')'", () -> {
      stands("answer (1);", 1);
      stands("answer (((kind))) by 1;", 1);
      stands("answer (1 or 0)+(not 1);", 1);
      fails(1, "answer (@);");
      fails(1, "answer (1@;");
      fails(1, "answer (1 @by 1);");
      fails(1, "answer 1@);");
      fails(1, "answer (1)@);");
      fails(1, "answer 1 @(2);");
      fails(1, "answer (1)@(2);");
      fails(1, "answer (1@");
      fails(1, "answer 1 @1;");
      fails(1, "answer 1 @kind;");
    });
    says("Term 2", "NAME: from kind age known sum many mine", () -> {
      stands("answer from+kind+age+known+sum+many+mine;", 1);
      for (String other : "by read hand first answers answer day name sums su".split(" ")) fails(1, "answer @" + other + ";");
    });
  }

  private static void tokens() {
    says("Term 2", "Words: small letters in a row", () -> {
      stands("read hand0;answer(1)by1 2;round not(1)or 0and 1by3;", 3);
      fails(1, "@readhand;");
      fails(1, "@Read hand;");
      fails(1, "@READ hand;");
      fails(1, "read @Hand;");
      fails(1, "read @hanD;");
      fails(1, "read @handx;");
      fails(1, "read @handz;");
      fails(1, "read @handa;");
      fails(1, "answer 1by1@x;");
      fails(1, "read hand@`;");
      fails(1, "read hand@{;");
      fails(1, "read hand@_;");
      fails(1, "answer @notnot 1;");
      fails(1, "answer @z;");
      fails(1, "answer @a;");
    });
    says("Term 2", "N: digits, 0 .. 999", () -> {
      stands("answer 0;answer 999;answer 0999;answer 00000000000000000000000999;", 4);
      fails(2, "answer @1000;");
      fails(2, "answer @9990;");
      fails(2, "answer @4294967296;");
      fails(2, "answer @18446744073709551617;");
      fails(1, "answer @/;");
      fails(1, "answer @:;");
      fails(1, "answer 1@/;");
      fails(1, "answer 1@:;");
      fails(1, "answer 1@a;");
    });
    says("Term 2", "blanks 10, 32", () -> {
      stands("\nread\n \nhand \n1\n;\n ", 1);
      for (int c : new int[] {0, 9, 11, 13, 31, 33, 42, 127, 138, 160, 255}) fails(1, "read hand@" + (char) c + ";");
    });
    says("Term 2", "a = (or > behind <) right behind < or > belongs to it", () -> {
      stands("answer 1<=2;answer 1>=2;answer 1<>2;", 3);
      fails(1, "answer 1< @=2;");
      fails(1, "answer 1> @=2;");
      fails(1, "answer 1< @>2;");
      fails(1, "answer 1=@<2;");
      fails(1, "answer 1=@>2;");
      fails(1, "answer 1>@<2;");
      fails(1, "answer 1=@=2;");
      fails(1, "answer 1<>@=2;");
      fails(1, "answer 1<=@=2;");
      fails(1, "answer 1>=@>2;");
      fails(1, "answer 1<@<2;");
      fails(1, "answer 1<@");
      fails(1, "answer 1<=@");
    });
  }

  private static void cantStand() {
    says("Term 2", "FAULTS, the first along the text", () -> {
      fails(1, "read @1000; answer 1000;");
      fails(2, "answer @1000 1000 ! read");
      fails(2, "read hand @6 !;");
      fails(1, "read hand @! 6;");
      fails(3, "read hand 1 @1 6;");
      fails(2, "read hand 1 @6 1;");
      fails(1, "read hand 1; read seen @! 1;");
      fails(3, "read hand 1; read seen @1 !;");
      fails(1, "answer @; answer ((((((((( 1;");
    });
    says("Term 2", "(of one place the least)", () -> {
      fails(1, "@1000");
      fails(1, "read @1000;");
      fails(1, "answer 1 @1000;");
      fails(1, "answer 1 @(((((((((1;");
      fails(1, KNOTS_63 + "answer 1 @1;");
      fails(1, KNOTS_63 + "answer 1 @not;");
      fails(1, KNOTS_63 + "answer not @<;");
      fails(1, KNOTS_63 + "answer 1 @kind;");
      fails(1, "answer " + times("(", 8) + "1@(1;");
      fails(1, times("answer 1;", 8) + "@answers 1;");
    });
    says("Term 2", "1 a TOKEN that is none (another word, too) or can't stand there", () -> {
      fails(1, "@?");
      fails(1, "@reads hand;");
      fails(1, "read hand @or;");
      fails(1, "answer 1@,2;");
      fails(1, "answer 1@*2;");
      fails(1, "answer 1@!;");
      fails(1, "answer @[1];");
      fails(1, "answer 1@\";");
      fails(1, "answer @seen;");
    });
    says("Term 2", "(the length, if more must come)", () -> {
      fails(1, "read@");
      fails(1, "read  \n@");
      fails(1, "read hand@");
      fails(1, "read hand 0 @");
      fails(1, "answer@");
      fails(1, "answer 1@");
      fails(1, "answer not@");
      fails(1, "answer (@");
      fails(1, "answer (1@");
      fails(1, "answer 1+@");
      fails(1, "answer 1 by@");
      fails(1, "answer 1 by 1@");
      fails(1, "read hand; answer 1\n @");
      fails(1, "read hand 3; read seen@");
      stands("read hand; ", 1);
    });
  }

  private static void tooMuch() {
    says("Term 2", "a number beyond what is said", () -> {
      fails(2, "read hand 5 @6;");
      fails(2, "read hand @999;");
      fails(2, "read hand @1000;");
      fails(2, "read hand @4294967296;");
      fails(2, "answer 1 by @6;");
      fails(2, "answer 1 by 0 @6;");
      fails(2, "answer 1 by @4294967296;");
      fails(2, "answer 999+@1000;");
      fails(2, "answer (@1000");
      stands("answer 999;", 1);
    });
    says("Term 2", "a ninth '(' open", () -> {
      stands("answer " + times("(", 8) + "1" + times(")", 8) + ";", 1);
      fails(2, "answer " + times("(", 8) + "@(1" + times(")", 9) + ";");
      fails(2, "answer " + times("(", 8) + "@(");
      fails(1, "answer " + times("(", 8) + "@");
      stands("answer " + times("(1)+", 9) + "1;", 1);
      stands("answer " + times("(", 8) + "1)+(1" + times(")", 8) + ";", 1);
      fails(2, "answer " + times("(", 8) + "1)+(@(1" + times(")", 9) + ";");
      stands("answer " + times("(", 8) + "1" + times(")", 8) + ";round " + times("(", 8) + "1" + times(")", 8) + ";", 2);
    });
    says("Term 2", "a ninth LINE of answer and round (at its word)", () -> {
      stands(times("answer 1;", 4) + times("round 1;", 4), 8);
      stands(times("answer 1;", 8) + "read hand 0;read seen 1;", 10);
      fails(2, times("answer 1;", 8) + "@answer 1;");
      fails(2, times("answer 1;", 8) + "@round 1;");
      fails(2, times("round 1;", 8) + " @answer");
      fails(2, "read hand;" + times("round 1;", 8) + "@round !");
    });
  }

  private static void knots() {
    says("Term 2", "a 65th KNOT of the whole text", () -> {
      stands(KNOTS_63 + "answer 1;", 2);
      fails(2, KNOTS_63 + "answer 1;answer @1;");
      fails(2, KNOTS_63 + "answer 1@+1;");
      stands(KNOTS_63 + "answer kind by 0 1 2;read hand 3;", 3);
      fails(2, times("answer 1+1+1+1+1;", 7) + "answer 1@+1;");
    });
    says("Term 2", "(N, NAMES, signs, not, and, or in E: one each)", () -> {
      for (String sign : "+ - < <= = <> >= > and or".split(" ")) fails(2, KNOTS_63 + "answer 1 @" + sign + " 1;");
      for (String operand : "0 999 from kind age known sum many mine not".split(" ")) fails(2, KNOTS_63 + "answer not @" + operand + " 1;");
      stands(KNOTS_63 + "answer ((1)) by 0 1 2 3 4 5;read hand 0 1 2;", 3);
      CitingLetters x = with("read hand 3;answer not kind+1<=(2) and 3 or from-4 by 1 2;");
      due("KNOTS", x.count(8), 12);
    });
  }

  private static void twice() {
    says("Term 2", "3 a WRITER whose RULE was told in a LINE ahead", () -> {
      fails(3, "read hand 1;read hand @1;");
      fails(3, "read hand 0 5;read seen 1 2;read first 3 @2;");
      fails(3, "read hand;read seen @4;");
      stands("read hand 0;read hand 1 2;read hand 3 4 5;", 3);
      stands("answer 1 by 1;round 1 by 1;read hand 1;", 3);
    });
    says("Term 2", "or a WRITER twice in one LINE (at N", () -> {
      fails(3, "read hand 0 @0;");
      fails(3, "read hand 5 4 3 2 1 0 @5;");
      fails(3, "answer 1 by 0 @0;");
      fails(3, "round 1 by 5 4 3 2 1 0 @3;");
      fails(3, "answer 1 by 3 @03;");
    });
    says("Term 2", "of a LINE of read without N at its ;, if some WRITER's was", () -> {
      fails(3, "read hand 5;read seen@;");
      fails(3, "read hand;read hand  @;");
      fails(3, "read hand 0 1 2 3 4 5;read hand@;");
      fails(1, "read hand 5;read seen@");
      fails(1, "read hand 5;read seen @by;");
      stands("answer 1 by 1;read hand;", 2);
    });
  }
}
