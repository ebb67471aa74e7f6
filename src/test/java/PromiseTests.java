/** Each promise by itself: ordinary inputs, the edges that the document names, wrong inputs. Worked out by hand. */
public final class PromiseTests extends TestCalls {
  private static int wrong = 0;

  private static void due(int promise, String what, long got, long want) {
    if (got != want) { wrong++; System.out.println("promise " + promise + ": " + what + " answered " + got + ", due is " + want); }
  }
  private static void due(int promise, String what, boolean got, boolean want) { due(promise, what, got ? 1 : 0, want ? 1 : 0); }

  public static void main(String[] args) {
    newObject(); tape(); faults(); knots(); expressions(); lines();
    ways(); write(); late(); lose(); again(); split(); days(); rules(); answers(); read();
    look(); copyAndDesk(); before(); path(); sums(); tells(); chains();
    waits(); who(); burnAndCould(); forged(); ahead(); orders(); ask(); hangs(); counts();
    System.out.println(wrong == 0 ? "PromiseTests: all answers are as due" : "PromiseTests: " + wrong + " answers are not as due");
    if (wrong != 0) System.exit(1);
  }

  private static void newObject() {
    CitingLetters x = new CitingLetters();
    for (int c = 0; c <= 9; c++) due(1, "count " + c, x.count(c), 0);
    due(1, "text of nothing", x.text(1), -2);
    due(1, "no split", mail(x, 0, 62), 0);
    for (int c = 0; c < 5; c++) due(1, "way " + c, x.copy(c, 2), 5);
    due(1, "NONE", CitingLetters.NONE, -1);
    due(1, "fault", x.fault(0), 0);
    due(1, "place", x.fault(1), NONE);
  }

  private static void tape() {
    CitingLetters x = new CitingLetters();
    for (int k = 1; k <= 20; k++) due(2, "feed " + k, x.feed(0x20202020, 0x20202020, 0x20202020, 0x20202020, 0x20202020), 20 * k);
    due(2, "feed a 21st", x.feed(0, 0, 0, 0, 0), NONE);
    due(3, "more than there are", x.text(401), -2);
    due(3, "below 0", x.text(-1), -2);
    due(3, "blanks", x.text(400), 0);
    due(3, "empty then", x.text(1), -2);
    due(2, "feed again", x.feed(0x72656164, 0x2068616e, 0x643b3f3f, -1, -1), 20);
    due(3, "the first bytes alone", x.text(10), 1);
    due(2, "high bytes", x.feed(-1, 0, 0, 0, 0), 20);
    due(3, "no token", x.text(1), NONE);
    due(4, "fault", x.fault(0), 1);
    due(4, "place", x.fault(1), 0);
    due(4, "fault stays with -2", x.text(9), -2);
    due(4, "fault still", x.fault(0), 1);
    due(4, "another what", x.fault(2), NONE);
    due(4, "another what below", x.fault(-1), NONE);
    due(3, "empty text", x.text(0), 0);
    due(4, "no fault", x.fault(0), 0);
    due(4, "no place", x.fault(1), NONE);
  }

  private static void fails(String text, int fault, int place) {
    CitingLetters x = with("answer 1;");
    due(3, "'" + text + "'", told(x, text), NONE);
    due(4, "fault of '" + text + "'", x.fault(0), fault);
    due(4, "place of '" + text + "'", x.fault(1), place);
    due(3, "the TEXT stays behind '" + text + "'", x.count(7), 1);
  }

  private static void faults() {
    fails("read", 1, 4);
    fails("read  \n", 1, 7);
    fails("read hand", 1, 9);
    fails("read hand 0 ", 1, 12);
    fails("read answer;", 1, 5);
    fails("readhand;", 1, 0);
    fails("Read hand;", 1, 0);
    fails("read hand by 1;", 1, 10);
    fails("read hand;;", 1, 10);
    fails("1000", 1, 0);
    fails("read 1000", 1, 5);
    fails("read hand\t;", 1, 9);
    fails("answer 1<=2>=3;", 1, 11);
    fails("answer 1< =2;", 1, 10);
    fails("answer 1=<2;", 1, 9);
    fails("answer 1=>2;", 1, 9);
    fails("answer 1><2;", 1, 9);
    fails("answer 1<>=2;", 1, 10);
    fails("answer 1+not 2;", 1, 9);
    fails("answer 1<not 2;", 1, 9);
    fails("answer 1 not 2;", 1, 9);
    fails("answer 1 2;", 1, 9);
    fails("answer 1a;", 1, 8);
    fails("answer ();", 1, 8);
    fails("answer 1);", 1, 8);
    fails("answer (1 by 2;", 1, 10);
    fails("answer (1;", 1, 9);
    fails("answer -1;", 1, 7);
    fails("answer 1 by by;", 1, 12);
    fails("answer 1 by 1 or 2;", 1, 14);
    fails("answer comes;", 1, 7);
    fails("answer 1 by 0 1", 1, 15);
    fails("read hand 6;", 2, 10);
    fails("read hand 99999999999999999999;", 2, 10);
    fails("answer 1 by 4294967296;", 2, 12);
    fails("answer 1000;", 2, 7);
    fails("answer 1 + 4294967297 !", 2, 11);
    fails("answer " + times("(", 9), 2, 15);
    fails(times("answer 1;", 8) + "round", 2, 72);
    fails("read hand 1 2 1;", 3, 14);
    fails("read hand 1; read seen 2; read first 0 1;", 3, 39);
    fails("read hand 3; read seen;", 3, 22);
    fails("read hand 3; read seen", 1, 22);
    fails("read hand; read seen 4;", 3, 21);
    fails("read hand 0 0 6;", 3, 12);
    fails("answer 1 by 2 3 2;", 3, 16);
    fails("answer 1 by 0 1 2 3 4 5 5;", 3, 24);
    due(3, "all good blanks", told(new CitingLetters(), " \nread\nhand 0 1;answer(1)by 1 2;round not not 1<2+(3)by3;"), 3);
    due(3, "numbers with 0 ahead", told(new CitingLetters(), "read hand 0005;answer 000000000999 by 00;"), 2);
    due(3, "eight brackets", told(new CitingLetters(), "answer " + times("(", 8) + "1" + times(")", 8) + "+(1);"), 1);
    due(3, "a rule for each", told(new CitingLetters(), "read hand 0;read comes 1;read first 2;read answers 3;read seen 4;read hand 5;"), 6);
  }

  private static void knots() {
    CitingLetters x = new CitingLetters();
    due(3, "64 knots", told(x, "answer 1" + times("+1", 31) + ";answer 2;"), 2);
    due(41, "64 knots", x.count(8), 64);
    fails("answer 1" + times("+1", 31) + ";answer 2+1;", 2, 79);
    fails("answer 1" + times("+1", 31) + ";answer 1000;", 2, 78);
    fails("answer " + times("not ", 64) + "1;", 2, 263);
    fails("answer " + times("not ", 65) + "1;", 2, 263);
    x = with("answer (kind + 1) <> age and not mine or ( ( sum ) ) by 0 1 2;");
    due(41, "brackets and writers are no knots", x.count(8), 10);
  }

  /** A writer answers the first letter by E if E holds. */
  private static void holds(String e, boolean want) {
    CitingLetters x = with("answer " + e + " by 1;");
    mail(x, 3, 4);
    x.write(0, 2, 1, NONE, NONE);
    x.days(5);
    due(12, "E " + e, x.count(1) == 3, want);
  }

  private static void expressions() {
    holds("0", false); holds("7", true); holds("3-3", false); holds("1-2", true); holds("10-5-5", false); holds("10-(5-5)=10", true);
    holds("2 and 4 = 1", false); holds("(2 and 4) = 1", true); holds("(2 or 0)=1", true); holds("(not 5)=0", true); holds("(not 0)=1", true);
    holds("1 or 0 and 0", true); holds("(1 or 0) and 0", false); holds("not 1 or 1", true); holds("not (1 or 1)", false);
    holds("not 1 = 2", true); holds("not 0 and 0", false); holds("not not 7", true);
    holds("1<1", false); holds("1<=1", true); holds("1=1", true); holds("1<>1", false); holds("1>=1", true); holds("1>1", false);
    holds("0-1<0", true); holds("1+1=2", true); holds("1-1+1=1", true); holds("(1<2)+(2<3)=2", true);
    holds("from=0", true); holds("kind=1", true); holds("age=5", true); holds("known=1", true); holds("sum=1", true); holds("many=0", true); holds("mine=0", true);
    holds("999=998+1", true);
  }

  private static void lines() {
    CitingLetters x = with("answer mine=0 by 1;round mine=1 by 2 1;answer mine=2;answer known=4 by 1;");
    mail(x, 0, 2);
    x.days(5);
    due(12, "line by line", x.count(1), 5);
    due(12, "answer goes to the writer", x.look(1, 3), 1);
    due(12, "round goes to all others", x.look(2, 3), 61);
    due(12, "the third", x.look(3, 3), 1);
    due(12, "the fourth", x.look(4, 3), 1);
    due(12, "it answers what was read", x.look(4, 4), 0);
    due(12, "and no other", x.look(4, 5), NONE);
    due(12, "it is plain", x.look(4, 2), 0);
    due(12, "of the same day", x.look(4, 1), 5);
    x = with("answer many=2 by 2;");
    mail(x, 0, 2);
    x.days(5);
    mail(x, 1, 4, 0);
    x.write(1, 4, 0, 0, 1);
    x.days(5);
    due(12, "many", x.count(1), 4);
    due(12, "many", x.look(3, 4), 2);
    x = with("answer sum=2 by 2;");
    mail(x, 0, 2);
    mail(x, 0, 4);
    x.days(5);
    due(12, "sum", x.count(1), 3);
    due(12, "sum", x.look(2, 4), 1);
    x = with("round 1;");
    mail(x, 0, 2);
    x.days(40);
    due(12, "no 31st letter", x.count(1), 30);
  }

  private static void ways() {
    CitingLetters x = new CitingLetters();
    due(5, "way 0 1 1", x.way(0, 1, 1), true);
    due(5, "way 5 0 30", x.way(5, 0, 30), true);
    due(5, "0 days", x.way(0, 1, 0), false);
    due(5, "31 days", x.way(0, 1, 31), false);
    due(5, "to himself", x.way(2, 2, 3), false);
    due(5, "writer 6", x.way(6, 2, 3), false);
    due(5, "writer -1", x.way(2, -1, 3), false);
    mail(x, 0, 34);
    due(5, "the same both ways", x.copy(1, 2), 30);
    due(5, "way told", x.copy(0, 2), 1);
    x.way(1, 0, 9);
    due(5, "what is under way stays", x.copy(0, 2), 1);
    mail(x, 1, 1);
    due(5, "what is posted from now on", x.copy(2, 2), 9);
  }

  private static void write() {
    CitingLetters x = new CitingLetters();
    due(6, "writer -1", mail(x, -1, 1), NONE);
    due(6, "writer 6", mail(x, 6, 1), NONE);
    due(6, "to nobody", mail(x, 0, 0), NONE);
    due(6, "to himself", mail(x, 0, 3), NONE);
    due(6, "to writer 6", mail(x, 0, 66), NONE);
    due(6, "to below 0", mail(x, 0, -2), NONE);
    due(6, "kind -1", x.write(0, 2, -1, NONE, NONE), NONE);
    due(6, "kind 3", x.write(0, 2, 3, NONE, NONE), NONE);
    due(6, "nothing is there to answer", mail(x, 0, 2, 0), NONE);
    due(6, "taking back nothing", x.write(0, 2, 2, NONE, NONE), NONE);
    due(6, "the first", x.write(0, 6, 1, NONE, NONE), 0);
    due(6, "copies by their numbers", x.copy(1, 1), 2);
    due(6, "what he hasn't read", mail(x, 1, 1, 0), NONE);
    due(6, "-2 for none", x.write(0, 2, 0, -2, NONE), NONE);
    due(6, "-2 for none", x.write(0, 2, 0, 0, -2), NONE);
    due(6, "none, but another", x.write(0, 2, 0, NONE, 0), NONE);
    due(6, "twice the same", x.write(0, 2, 0, 0, 0), NONE);
    due(6, "a second", mail(x, 0, 2, 0), 1);
    due(6, "two of his", x.write(0, 2, 1, 1, 0), 2);
    due(6, "taking back two", x.write(0, 2, 2, 1, 0), NONE);
    due(6, "taking back his", x.write(0, 2, 2, 1, NONE), 3);
    x.days(5);
    due(6, "what he has read", x.write(1, 1, 0, 3, 0), 4);
    due(6, "taking back another's", x.write(1, 1, 2, 0, NONE), NONE);
    due(6, "taking back what takes back", x.write(0, 2, 2, 3, NONE), 5);
    for (int k = 6; k < 30; k++) due(6, "fill", mail(x, 0, 2), k);
    due(6, "there are 30", mail(x, 0, 2), NONE);
    x = new CitingLetters();
    for (int k = 0; k < 29; k++) mail(x, 0, 62);
    x.again(0, 0, 1);
    due(6, "no room for all its copies", mail(x, 0, 62), NONE);
    due(6, "nothing came of it", x.count(2), 146);
    due(6, "room for four", mail(x, 0, 60), 29);
    x = new CitingLetters();
    for (int k = 0; k < 10; k++) x.days(99);
    mail(x, 0, 2);
    due(6, "on the last day", x.days(9), 999);
    due(6, "comes beyond the last day", mail(x, 0, 4), 1);
    due(14, "its day", x.copy(1, 2), 1004);
    due(11, "no further day", x.days(1), NONE);
  }

  private static void late() {
    CitingLetters x = new CitingLetters();
    due(7, "no copy", x.late(0, 1), NONE);
    mail(x, 0, 6);
    due(7, "1 day", x.late(0, 1), 6);
    due(7, "99 more", x.late(0, 99), 105);
    due(7, "0 days", x.late(0, 0), NONE);
    due(7, "100 days", x.late(0, 100), NONE);
    due(7, "copy -1", x.late(-1, 1), NONE);
    due(7, "copy 2", x.late(2, 1), NONE);
    for (int k = 0; k < 9; k++) x.late(0, 99);
    due(7, "beyond 999", x.late(0, 4), NONE);
    due(7, "999", x.late(0, 3), 999);
    due(7, "it stays UNDER WAY", x.copy(0, 3), 0);
    x.days(5);
    due(7, "come", x.late(1, 1), NONE);
    x.lose(0);
    due(7, "LOST", x.late(0, 1), NONE);
    due(14, "the day on which it was to come", x.copy(0, 2), 999);
  }

  private static void lose() {
    CitingLetters x = new CitingLetters();
    due(8, "no copy", x.lose(0), false);
    mail(x, 0, 6);
    due(8, "copy 0", x.lose(0), true);
    due(8, "twice", x.lose(0), false);
    due(8, "copy -1", x.lose(-1), false);
    x.days(5);
    due(8, "come", x.lose(1), false);
    due(8, "never read", x.readOn(1, 0), NONE);
    due(14, "LOST", x.copy(0, 3), 2);
    due(14, "come", x.copy(1, 3), 1);
  }

  private static void again() {
    CitingLetters x = new CitingLetters();
    due(9, "no letter", x.again(0, 0, 1), NONE);
    mail(x, 0, 2);
    due(9, "he hasn't read it yet", x.again(0, 1, 2), NONE);
    due(9, "to himself", x.again(0, 0, 0), NONE);
    due(9, "writer 6", x.again(0, 6, 0), NONE);
    due(9, "to writer 6", x.again(0, 0, 6), NONE);
    due(9, "to writer -1", x.again(0, 0, -1), NONE);
    due(9, "letter -1", x.again(-1, 0, 1), NONE);
    due(9, "by its writer", x.again(0, 0, 1), 1);
    x.days(5);
    due(9, "doubled: read once", x.count(5), 1);
    due(9, "by a reader, to another", x.again(0, 1, 4), 2);
    due(9, "by a reader, to its writer", x.again(0, 1, 0), 3);
    x.days(5);
    due(9, "another has read it", x.has(0), 19);
    due(9, "its writer holds none", x.count(4), 0);
    for (int k = 4; k < 150; k++) due(9, "fill", x.again(0, 0, 1), k);
    due(9, "there are 150", x.again(0, 0, 1), NONE);
  }

  private static void split() {
    CitingLetters x = new CitingLetters();
    due(10, "half -1", x.split(-1, 0, 0), false);
    due(10, "half 64", x.split(64, 0, 0), false);
    due(10, "from -1", x.split(1, -1, 0), false);
    due(10, "to 999", x.split(1, 0, 999), false);
    due(10, "from beyond to", x.split(1, 5, 4), false);
    due(10, "wrong days of none", x.split(0, 5, 4), false);
    mail(x, 0, 2);
    due(10, "a split", x.split(3, 5, 998), true);
    due(10, "what was posted stays", x.copy(0, 2), 5);
    mail(x, 0, 6);
    due(10, "within a half", x.copy(1, 2), 5);
    due(10, "between the halves", x.copy(2, 2), 999);
    due(10, "a lesser split", x.split(4, 3, 5), true);
    mail(x, 2, 3);
    due(10, "on its last day", x.copy(3, 2), 6);
    x.split(4, 6, 7);
    mail(x, 2, 3);
    due(10, "a day ahead of it", x.copy(5, 2), 5);
    due(10, "late into it", x.late(5, 1), 8);
    due(10, "late beyond it", x.late(6, 3), 8);
    due(10, "late within a half", x.late(0, 1), 6);
    x.again(0, 0, 2);
    x.split(0, 0, 0);
    mail(x, 2, 3);
    due(10, "none any more", x.late(8, 1), 6);
    x = new CitingLetters();
    mail(x, 0, 2);
    x.days(5);
    x.split(1, 10, 12);
    x.again(0, 1, 2);
    due(10, "by him who posts it, not its writer", x.copy(1, 2), 10);
    due(10, "nor as it is late", x.late(1, 1), 11);
    x.again(0, 0, 2);
    due(10, "by its writer", x.copy(2, 2), 13);
    due(10, "everybody as a half", x.split(63, 0, 998), true);
    mail(x, 0, 2);
    due(10, "parts nobody", x.copy(3, 2), 10);
  }

  private static void days() {
    CitingLetters x = new CitingLetters();
    due(11, "0", x.days(0), 0);
    due(11, "-1", x.days(-1), NONE);
    due(11, "100", x.days(100), NONE);
    due(11, "1", x.days(1), 1);
    for (int k = 0; k < 10; k++) x.days(99);
    due(11, "beyond 999", x.days(9), NONE);
    due(11, "nothing happened", x.count(0), 991);
    due(11, "999", x.days(8), 999);
    due(11, "none beyond", x.days(1), NONE);
    due(11, "none at all", x.days(0), 999);
    // copies by their numbers: the later letter's copy has the lesser number behind the doubled one
    x = with("read hand 1;");
    mail(x, 0, 2);
    mail(x, 2, 2);
    x.lose(0);
    x.again(0, 0, 1);
    x.days(5);
    due(15, "HELD in the order of copies", x.desk(1, 0), 1);
    due(15, "HELD in the order of copies", x.desk(1, 1), 0);
  }

  private static void rules() {
    CitingLetters x = with("read hand 1;read comes 2;read first 3;");
    for (int k = 0; k < 2; k++) mail(x, 0, 14);
    x.late(0, 3); x.late(1, 3); x.late(2, 3);
    mail(x, 4, 8);
    x.days(5);
    due(11, "hand holds", x.desk(1, 0), 1);
    due(11, "comes reads", x.readOn(2, 1), 5);
    due(11, "first holds what is ahead of its time", x.readOn(3, 1), NONE);
    due(11, "first reads another's", x.readOn(3, 2), 5);
    due(25, "first waits", x.waits(3, 1), 1);
    due(25, "hand waits for none", x.waits(1, 1), 0);
    x.days(3);
    due(11, "behind those held", x.desk(1, 1), 0);
    due(11, "first reads both", x.readOn(3, 1), 8);
    due(11, "first reads both", x.readOn(3, 0), 8);
    // answers and seen
    x = with("read answers 3;read seen 4;");
    mail(x, 0, 26);
    x.late(1, 20); x.late(2, 20);
    mail(x, 0, 2);
    x.days(5);
    mail(x, 1, 24, 1);
    mail(x, 1, 24, 0);
    x.days(5);
    due(11, "answers: that one didn't go to him", x.readOn(3, 2), 10);
    due(25, "answers: that one did", x.waits(3, 3), 1);
    due(25, "seen: what was before it", x.waits(4, 2), 1);
    due(25, "seen: also through its answers", x.waits(4, 3), 5);
    due(26, "on the way still", x.ever(4), 0);
    x.days(15);
    due(11, "all read in a row", x.count(4), 0);
    due(11, "on the day it came", x.readOn(4, 3), 25);
    // a new text counts from the next day on
    x = with("read hand;");
    mail(x, 0, 2);
    x.days(5);
    told(x, "");
    due(11, "not by the text alone", x.readOn(1, 0), NONE);
    x.days(1);
    due(11, "without a line: comes", x.readOn(1, 0), 6);
  }

  private static void answers() {
    CitingLetters x = with("answer kind=1 by 1;");
    x.write(0, 6, 1, NONE, NONE);
    x.days(5);
    due(11, "he alone answers", x.count(1), 2);
    due(11, "posted on the same day", x.copy(2, 2), 10);
    x.days(5);
    due(11, "read by the asker", x.readOn(0, 1), 10);
    due(11, "a plain one isn't answered", x.count(1), 2);
  }

  private static void read() {
    CitingLetters x = with("read hand;answer 1 by 1;");
    mail(x, 0, 2);
    mail(x, 2, 2);
    x.days(5);
    due(12, "not held", x.read(1, 2), NONE);
    due(12, "writer 6", x.read(6, 0), NONE);
    due(12, "writer -1", x.read(-1, 0), NONE);
    due(12, "letter -1", x.read(1, -1), NONE);
    due(12, "another's desk", x.read(2, 0), NONE);
    due(12, "read", x.read(1, 1), 1);
    due(12, "he answers", x.look(2, 3), 4);
    due(12, "read already", x.read(1, 1), NONE);
    due(12, "read", x.read(1, 0), 0);
    due(28, "today", x.readOn(1, 0), 5);
  }

  private static void look() {
    CitingLetters x = new CitingLetters();
    due(13, "no letter", looked(x, 0, 0), NO_LETTER);
    x.days(4);
    mail(x, 3, 1);
    x.write(3, 36, 2, 0, NONE);
    x.write(3, 36, 1, 0, 1);
    int[] want = {3, 4, 2, 36, 0, NONE};
    for (int k = 0; k < 6; k++) due(13, "what " + k, x.look(1, k), want[k]);
    due(13, "answers two", x.look(2, 5), 1);
    due(13, "answers none", x.look(0, 4), NONE);
    due(13, "what 6", looked(x, 2, 6), NO_WHAT);
    due(13, "what -1", looked(x, 2, -1), NO_WHAT);
    due(13, "letter -1", looked(x, -1, 0), NO_LETTER);
    due(13, "letter 3, what 6", looked(x, 3, 6), NO_LETTER);
    due(13, "what 0", looked(x, 2, 0), 3);
  }

  private static void copyAndDesk() {
    CitingLetters x = with("read hand;");
    due(14, "no copy", x.copy(0, 0), NONE);
    mail(x, 0, 2);
    mail(x, 0, 40);
    due(14, "letter", x.copy(2, 0), 1);
    due(14, "to whom", x.copy(2, 1), 5);
    due(14, "day", x.copy(2, 2), 5);
    due(14, "under way", x.copy(2, 3), 0);
    due(14, "what 4", x.copy(2, 4), NONE);
    due(14, "what -1", x.copy(2, -1), NONE);
    due(14, "copy 3", x.copy(3, 0), NONE);
    due(14, "copy -1", x.copy(-1, 0), NONE);
    due(15, "none yet", x.desk(1, 0), NONE);
    x.days(5);
    due(15, "one", x.desk(5, 0), 1);
    due(15, "no second", x.desk(5, 1), NONE);
    due(15, "-1", x.desk(5, -1), NONE);
    due(15, "writer 6", x.desk(6, 0), NONE);
    due(15, "writer -1", x.desk(-1, 0), NONE);
  }

  private static void before() {
    CitingLetters x = five();
    due(16, "0 1", x.before(0, 1), 1);
    due(16, "1 0", x.before(1, 0), 2);
    due(16, "1 2", x.before(1, 2), 0);
    due(16, "0 3 through 1 or 2", x.before(0, 3), 1);
    due(16, "3 1", x.before(3, 1), 2);
    due(16, "3 4", x.before(3, 4), 0);
    due(16, "same", x.before(3, 3), NONE);
    due(16, "5", x.before(3, 5), NONE);
    due(16, "-1", x.before(-1, 3), NONE);
    // reading behind the writing makes nothing before
    x.days(5);
    x.again(4, 3, 0);
    x.days(5);
    due(16, "0 4 still apart", x.before(0, 4), 0);
    mail(x, 0, 2);
    due(16, "4 5", x.before(4, 5), 1);
  }

  private static void path() {
    CitingLetters x = five();
    due(17, "0", x.path(0, 3, 0), 0);
    due(17, "by the lesser number", x.path(0, 3, 1), 1);
    due(17, "3", x.path(0, 3, 2), 3);
    due(17, "no more", x.path(0, 3, 3), NONE);
    due(17, "-1", x.path(0, 3, -1), NONE);
    due(17, "apart", x.path(1, 2, 0), NONE);
    due(17, "behind", x.path(3, 0, 0), NONE);
    due(17, "same", x.path(3, 3, 0), NONE);
    due(17, "no letter", x.path(0, 5, 0), NONE);
    due(17, "straight on", x.path(2, 3, 1), 3);
    // two steps by 5 are fewer than three by lesser numbers
    CitingLetters y = new CitingLetters();
    mail(y, 0, 2);
    y.days(5);
    mail(y, 1, 4);
    y.days(5);
    mail(y, 2, 8);
    y.days(5);
    y.again(0, 0, 3);
    y.days(5);
    mail(y, 3, 16);
    due(17, "the fewest", y.path(0, 3, 1), 3);
    due(17, "through others", y.path(1, 3, 1), 2);
  }

  private static void sums() {
    CitingLetters x = five();
    int[] sum = {1, 2, 2, 3, 1};
    for (int k = 0; k < 5; k++) due(18, "sum " + k, x.sum(k), sum[k]);
    due(18, "-1", x.sum(-1), NONE);
    due(18, "5", x.sum(5), NONE);
    due(19, "3 0", x.number(3, 0), 2);
    due(19, "2 0", x.number(2, 0), 1);
    due(19, "2 1: itself", x.number(2, 1), 1);
    due(19, "3 3", x.number(3, 3), 0);
    due(19, "letter 5", x.number(5, 0), NONE);
    due(19, "letter -1", x.number(-1, 0), NONE);
    due(19, "writer 6", x.number(0, 6), NONE);
    due(19, "writer -1", x.number(0, -1), NONE);
    due(20, "what 1 knew of 0", x.pair(3, 0, 1), 1);
    due(20, "what 0 knew of 0", x.pair(3, 0, 0), 2);
    due(20, "what 2 knew of 0", x.pair(3, 0, 2), 2);
    due(20, "what 0 knew of 1", x.pair(3, 1, 0), 0);
    due(20, "without", x.pair(3, 0, 3), 0);
    due(20, "letter 5", x.pair(5, 0, 0), NONE);
    due(20, "writer 6", x.pair(0, 6, 0), NONE);
    due(20, "writer -1", x.pair(0, 0, -1), NONE);
    due(21, "list 3", x.list(3), 6);
    due(21, "list 1", x.list(1), 1);
    due(21, "list 4", x.list(4), 0);
    due(21, "5", x.list(5), NONE);
    due(21, "-1", x.list(-1), NONE);
  }

  private static void tells() {
    CitingLetters x = five();
    due(22, "answers, through 2", x.tells(0, 3, 0), 1);
    due(22, "answers", x.tells(1, 3, 0), 0);
    due(22, "answers, back", x.tells(3, 0, 0), 0);
    due(22, "sum tells too much", x.tells(4, 3, 1), 1);
    due(22, "sum", x.tells(1, 2, 1), 0);
    due(22, "numbers", x.tells(1, 3, 2), 1);
    due(22, "numbers", x.tells(1, 2, 2), 0);
    due(22, "lists, through others", x.tells(0, 3, 3), 1);
    due(22, "lists", x.tells(4, 3, 3), 0);
    due(22, "same", x.tells(1, 1, 0), NONE);
    due(22, "bearing 4", x.tells(0, 1, 4), NONE);
    due(22, "bearing -1", x.tells(0, 1, -1), NONE);
    due(22, "letter 5", x.tells(0, 5, 0), NONE);
    due(23, "answers: 0 1 and 1 3 aren't told", x.errs(0), 2);
    due(23, "sum: 4 ahead of 1, 2, 3", x.errs(1), 3);
    due(23, "numbers", x.errs(2), 0);
    due(23, "lists", x.errs(3), 0);
    due(23, "bearing 4", x.errs(4), NONE);
    due(23, "bearing -1", x.errs(-1), NONE);
  }

  private static void chains() {
    CitingLetters x = five();
    due(24, "none", x.chains(0), 0);
    due(24, "all", x.chains(31), 3);
    due(24, "0 to 3", x.chains(15), 2);
    due(24, "0 1 3", x.chains(11), 1);
    due(24, "1 2", x.chains(6), 2);
    due(24, "letter 5", x.chains(32), NONE);
    due(24, "-1", x.chains(-1), NONE);
    // 0 and 1 ahead of 2; 1 ahead of 3: 0 must go with 2 and 1 with 3
    CitingLetters y = new CitingLetters();
    mail(y, 0, 4);
    mail(y, 1, 12);
    y.days(5);
    mail(y, 2, 1);
    mail(y, 3, 1);
    due(24, "each moves over", y.chains(15), 2);
    CitingLetters z = new CitingLetters();
    for (int k = 0; k < 30; k++) mail(z, k % 6, 1 << (k + 1) % 6);
    due(24, "six rows of five", z.chains((1 << 30) - 1), 6);
    due(24, "beyond bit 29", z.chains(1 << 30), NONE);
  }

  private static void waits() {
    CitingLetters x = with("read first 1;read seen 2;");
    for (int k = 0; k < 3; k++) mail(x, 0, 6);
    x.lose(0);
    x.lose(1);
    x.late(2, 9);
    x.days(5);
    due(25, "first", x.waits(1, 2), 3);
    due(25, "seen", x.waits(2, 1), 1);
    due(25, "seen", x.waits(2, 2), 3);
    due(25, "not held", x.waits(1, 0), NONE);
    due(25, "writer 6", x.waits(6, 2), NONE);
    due(25, "letter 3", x.waits(1, 3), NONE);
    due(25, "letter -1", x.waits(1, -1), NONE);
    due(26, "one is coming, one isn't", x.ever(1), 4);
    due(26, "for one that he holds for ever", x.ever(2), 6);
    due(26, "holds none", x.ever(3), 0);
    due(26, "writer 6", x.ever(6), NONE);
    due(26, "writer -1", x.ever(-1), NONE);
    x.again(0, 0, 1);
    due(26, "again under way", x.ever(1), 0);
    x.again(0, 0, 2);
    due(26, "again under way", x.ever(2), 0);
    x.days(9);
    due(26, "all read", x.count(4), 0);
    x = with("read hand 1;");
    mail(x, 0, 2);
    mail(x, 0, 2);
    x.lose(0);
    x.days(5);
    due(26, "of hand none", x.ever(1), 0);
    told(x, "read first;");
    due(26, "of first it is", x.ever(1), 2);
    due(25, "of first it waits", x.waits(1, 1), 1);
  }

  private static void who() {
    CitingLetters x = new CitingLetters();
    x.way(0, 2, 7);
    x.days(1);
    mail(x, 0, 6);
    due(27, "its writer", x.has(0), 1);
    due(30, "they haven't", x.all(0), NONE);
    x.days(5);
    due(27, "one more", x.has(0), 3);
    x.days(2);
    x.again(0, 0, 3);
    x.days(5);
    due(27, "all, and another", x.has(0), 15);
    due(27, "letter 1", x.has(1), NONE);
    due(27, "letter -1", x.has(-1), NONE);
    due(28, "his own", x.readOn(0, 0), 1);
    due(28, "read", x.readOn(2, 0), 8);
    due(28, "another's", x.readOn(3, 0), 13);
    due(28, "he hasn't", x.readOn(4, 0), NONE);
    due(28, "letter 1", x.readOn(0, 1), NONE);
    due(28, "writer 6", x.readOn(6, 0), NONE);
    due(28, "writer -1", x.readOn(-1, 0), NONE);
    int[] day = {0, 1, 5, 6, 7, 8, 12, 13, 999}, bits = {0, 1, 1, 3, 3, 7, 7, 15, 15};
    for (int k = 0; k < 9; k++) due(29, "day " + day[k], x.spread(0, day[k]), bits[k]);
    due(29, "day -1", x.spread(0, -1), NONE);
    due(29, "day 1000", x.spread(0, 1000), NONE);
    due(29, "letter 1", x.spread(1, 0), NONE);
    due(30, "all to whom it went", x.all(0), 8);
    due(30, "letter 1", x.all(1), NONE);
    due(30, "letter -1", x.all(-1), NONE);
  }

  private static void burnAndCould() {
    CitingLetters x = five();
    due(32, "by answers", x.could(0, 3), 2);
    due(32, "by days", x.could(1, 3), 1);
    due(32, "exactly so many days", x.could(1, 2), 1);
    due(32, "too late", x.could(2, 4), 1);
    due(32, "on one day", x.could(3, 4), 0);
    due(32, "back", x.could(3, 0), 0);
    due(32, "one writer", x.could(0, 1), 1);
    due(32, "one writer, back", x.could(1, 0), 0);
    x.way(0, 1, 6);
    due(32, "a day too few", x.could(1, 2), 0);
    x.way(0, 4, 2);
    x.way(4, 1, 3);
    due(32, "round about", x.could(1, 2), 1);
    due(32, "same", x.could(1, 1), NONE);
    due(32, "letter 5", x.could(1, 5), NONE);
    due(32, "letter -1", x.could(-1, 1), NONE);
    due(31, "letter 5", x.burn(5), NONE);
    due(31, "letter -1", x.burn(-1), NONE);
    due(31, "letter 2", x.burn(2), 4);
    due(31, "twice", x.burn(2), NONE);
    due(32, "through what was burnt: by days alone", x.could(0, 3), 1);
    due(32, "one was burnt", x.could(2, 3), NONE);
    due(32, "one was burnt", x.could(0, 2), NONE);
    due(41, "LEFT", x.count(6), 4);
    due(16, "burnt letters stay what they were", x.before(2, 3), 1);
  }

  private static void forged() {
    CitingLetters x = five();
    due(33, "none", x.forged(4, 10, 0), 0);
    due(33, "too much of another", x.forged(1, 4, list(1)), 1);
    due(33, "two can have come on day 5", x.forged(4, 5, list(2)), 0);
    due(33, "three can't", x.forged(4, 5, list(3)), 1);
    due(33, "his next one", x.forged(4, 10, list(0, 0, 0, 0, 1)), 0);
    due(33, "not the one behind it", x.forged(4, 10, list(0, 0, 0, 0, 2)), 1);
    due(33, "lacks what 2 bears", x.forged(4, 10, list(0, 1)), 2);
    due(33, "has it", x.forged(4, 10, list(1, 1)), 0);
    due(33, "goes back behind 3", x.forged(2, 10, list(2, 0, 2)), 3);
    due(33, "lacks ahead of going back", x.forged(2, 10, list(0, 1, 2)), 2);
    due(33, "his own last one, as it is", x.forged(2, 10, list(2, 1, 1)), 0);
    due(33, "his own, less than 3 bears", x.forged(2, 10, list(2, 1, 0)), 3);
    due(33, "a day ahead of 3: it binds nothing", x.forged(2, 9, list(0, 0, 1)), 0);
    due(33, "a day ahead of 3, of another", x.forged(4, 9, list(0, 0, 1)), 1);
    due(33, "bit 30", x.forged(4, 10, 1 << 30), 0);
    due(33, "below 0", x.forged(4, 10, -1), NONE);
    due(33, "beyond today", x.forged(4, 11, 0), NONE);
    due(33, "day -1", x.forged(4, -1, 0), NONE);
    due(33, "writer 6", x.forged(6, 10, 0), NONE);
    due(33, "writer -1", x.forged(-1, 10, 0), NONE);
    x.burn(2);
    due(33, "what was burnt counts", x.forged(4, 10, list(0, 1)), 2);
    due(34, "on day 0 nobody knew, but he himself", x.forgers(0, list(1)), 0);
    due(34, "on day 0 0 could write a third", x.forgers(0, list(3)), 1);
    due(34, "those that have written nothing, or no more", x.forgers(10, list(1, 1)), 50);
    due(34, "none at all", x.forgers(10, 0), 48);
    due(34, "beyond today", x.forgers(11, 0), NONE);
    due(34, "day -1", x.forgers(-1, 0), NONE);
    due(34, "below 0", x.forgers(0, -5), NONE);
  }

  private static void ahead() {
    CitingLetters x = five();
    due(35, "same", x.ahead(1, 1), NONE);
    due(35, "letter 5", x.ahead(1, 5), NONE);
    due(35, "letter -1", x.ahead(-1, 1), NONE);
    due(35, "against before", x.ahead(3, 0), NONE);
    due(35, "told", x.ahead(3, 4), 1);
    due(35, "against one told", x.ahead(4, 3), NONE);
    due(35, "against before and one told", x.ahead(4, 0), NONE);
    due(35, "known by before already", x.ahead(0, 3), 2);
    due(35, "told twice", x.ahead(0, 3), 3);
    for (int k = 4; k <= 12; k++) due(35, "fill", x.ahead(2, 1), k);
    due(35, "there are 12", x.ahead(0, 4), NONE);
    due(41, "PAIRS TOLD", x.count(9), 12);
  }

  private static void orders() {
    CitingLetters x = five();
    due(36, "none", x.orders(0), 1);
    due(36, "all", x.orders(31), 10);
    due(36, "0 to 3", x.orders(15), 2);
    due(36, "1 2 4", x.orders(22), 6);
    due(36, "letter 5", x.orders(32), NONE);
    due(36, "-1", x.orders(-1), NONE);
    int[][] want = {{0, 1, 2, 3, 4}, {0, 1, 2, 4, 3}, {0, 1, 4, 2, 3}, {0, 2, 1, 3, 4}, {0, 2, 1, 4, 3},
        {0, 2, 4, 1, 3}, {0, 4, 1, 2, 3}, {0, 4, 2, 1, 3}, {4, 0, 1, 2, 3}, {4, 0, 2, 1, 3}};
    for (int k = 0; k < 10; k++) for (int p = 0; p < 5; p++) due(37, "order " + k + " place " + p, x.order(31, k, p), want[k][p]);
    due(37, "order 10", x.order(31, 10, 0), NONE);
    due(37, "order -1", x.order(31, -1, 0), NONE);
    due(37, "place 5", x.order(31, 0, 5), NONE);
    due(37, "place -1", x.order(31, 0, -1), NONE);
    due(37, "no set", x.order(32, 0, 0), NONE);
    due(37, "of none", x.order(0, 0, 0), NONE);
    due(38, "1 2", x.first(31, 1, 2), 5);
    due(38, "4 3", x.first(31, 4, 3), 8);
    due(38, "3 0", x.first(31, 3, 0), 0);
    due(38, "0 3", x.first(31, 0, 3), 10);
    due(38, "same", x.first(31, 3, 3), NONE);
    due(38, "not of the set", x.first(15, 3, 4), NONE);
    due(38, "-1", x.first(31, -1, 3), NONE);
    due(38, "no set", x.first(63, 1, 2), NONE);
    x.ahead(4, 1);
    x.ahead(2, 4);
    due(36, "with those told", x.orders(31), 1);
    due(36, "told through one that isn't in the set", x.orders(6), 2);
    CitingLetters y = new CitingLetters();
    for (int w = 0; w < 6; w++) for (int k = 0; k < 2; k++) mail(y, w, 1 << (w + 1) % 6);
    mail(y, 0, 2);
    due(36, "twelve, two by two", y.orders(4095), 7484400);
    due(36, "thirteen", y.orders(8191), NONE);
    due(37, "thirteen", y.order(8191, 0, 0), NONE);
    due(38, "thirteen", y.first(8191, 0, 1), NONE);
    due(39, "thirteen", y.ask(8191), NONE);
    due(37, "the last one begins", y.order(4095, 7484399, 0), 10);
    due(37, "the last one ends", y.order(4095, 7484399, 11), 1);
    CitingLetters z = new CitingLetters();
    for (int w = 0; w < 6; w++) mail(z, w, 63 ^ 1 << w);
    due(36, "six of six writers", z.orders(63), 720);
  }

  private static void ask() {
    CitingLetters x = five();
    due(39, "halves them, the first of those", x.ask(31), 32 * 1 + 2);
    due(39, "1 2", x.ask(6), 34);
    due(39, "0 1: known, but the only pair", x.ask(3), 1);
    due(39, "one", x.ask(1), NONE);
    due(39, "none", x.ask(0), NONE);
    due(39, "letter 5", x.ask(48), NONE);
    x.ahead(1, 2);
    due(39, "2 4 parts the five by two and three", x.ask(31), 32 * 1 + 4);
  }

  private static void hangs() {
    CitingLetters x = five();
    due(40, "not taken back", x.hangs(0, 0), NONE);
    x.write(0, 4, 2, 0, NONE);
    due(40, "by answers", x.hangs(0, 0), 4 + 8 + 32);
    due(40, "by before", x.hangs(0, 1), 2 + 4 + 8 + 32);
    due(40, "what 2", x.hangs(0, 2), NONE);
    due(40, "what -1", x.hangs(0, -1), NONE);
    due(40, "letter 6", x.hangs(6, 0), NONE);
    due(40, "letter -1", x.hangs(-1, 0), NONE);
    due(40, "answered, but by a plain one", x.hangs(2, 0), NONE);
  }

  private static void counts() {
    CitingLetters x = with("read hand 1;answer 0;round 0 by 1;");
    mail(x, 0, 14);
    mail(x, 0, 2);
    x.lose(1);
    x.late(2, 2);
    x.days(5);
    int[] want = {5, 2, 4, 1, 2, 0, 2, 2, 2, 0};
    for (int k = 0; k < 10; k++) due(41, "count " + k, x.count(k), want[k]);
    x.days(2);
    due(41, "READ", x.count(5), 1);
    due(41, "UNDER WAY", x.count(3), 0);
    x.burn(1);
    due(41, "LEFT", x.count(6), 1);
    due(41, "10", x.count(10), NONE);
    due(41, "-1", x.count(-1), NONE);
  }
}
