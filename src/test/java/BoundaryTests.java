/** For each sentence of the document that names a boundary case, a test of its own; see Sentences. */
public final class BoundaryTests extends Sentences {
  public static void main(String[] args) {
    life();
    TextBoundaries.all();
    HabitBoundaries.all();
    PostBoundaries.all();
    DayBoundaries.all();
    PastBoundaries.all();
    DeskBoundaries.all();
    DoubtBoundaries.all();
    OrderBoundaries.all();
    if (!allHeld()) System.exit(1);
  }

  private static void life() {
    says("Face", "at most 512 calls after it has been made", () -> {
      CitingLetters x = new CitingLetters();
      int calls = 0;
      for (; calls < 12; calls++) mail(x, calls % 6, 63 ^ 1 << calls % 6);
      for (; calls < 510; calls += 2) {
        due("ask(4095)", x.ask(4095), 1);
        due("orders(4095)", x.orders(4095), 7484400);
      }
      due("call 511, days(5)", x.days(5), 5);
      due("call 512, count(5)", x.count(5), 60);
    });
    says("Promise 1", "TODAY 0, WAYS 5, no LETTERS, no TEXT, SPLIT, PAIRS TOLD; an empty TAPE", () -> {
      CitingLetters x = new CitingLetters();
      for (int what = 0; what <= 9; what++) due("count(" + what + ")", x.count(what), 0);
      due("text(1)", x.text(1), -2);
      due("feed", x.feed(0, 0, 0, 0, 0), 20);
      due("look(0, 0)", looked(x, 0, 0), NO_LETTER);
      due("copy(0, 0)", x.copy(0, 0), NONE);
      for (int w = 0; w < 6; w++) mail(x, w, 63 ^ 1 << w);
      for (int c = 0; c < 30; c++) due("copy(" + c + ", 2)", x.copy(c, 2), 5);
    });
    says("Promise 1", "no TEXT", () -> {
      CitingLetters x = new CitingLetters();
      mail(x, 0, 62);
      due("days(5)", x.days(5), 5);
      due("READ by all", x.count(5), 5);
      due("nobody answers", x.count(1), 1);
    });
  }
}
